/-! constructors: the reference, and both at the start -/
def LM : List AC := MO 0 0 (-1) 0 (-1) 0 0 :: ([] ++ [arr 0 21 (fun _ => 0)] ++ [arr 0 1008 (fun _ => 0)] ++ [arr 0 3024 (fun _ => 0)] ++ [arr 0 3024 (fun _ => 0)] ++ [arr 2 3024 (fun _ => 0)] ++ [arr 0 252 (fun _ => 0)] ++ [arr 1 8 (fun _ => 0)] ++ [arr 0 12 (fun _ => 0)] ++ [arr 0 12 (fun _ => 0)] ++ [arr 0 12 (fun _ => 0)] ++ [arr 0 4 (fun _ => 0)] ++ [arr 0 48 (fun _ => 0)] ++ [arr 0 12 (fun _ => 0)] ++ [arr 0 12 (fun _ => 0)] ++ [arr 0 12 (fun _ => 0)] ++ [arr 0 12 (fun _ => 0)] ++ [arr 0 144 (fun _ => 0)] ++ [arr 0 12 (fun _ => 0)])
theorem m_init (b : Hp) (hb : b.1 = 61) : fX12_init 62 (ext b [obj 11 [vr 0, vr 0, vr 0, vr 0, vr 0, vr 0, vi 0, vi 0, vi 0, vi 0, vr 0, vi 0, vr 0, vr 0, vr 0, vr 0, vr 0, vr 0, vi 0, vi 0, vr 0, vr 0, vr 0, vr 0, vr 0]]) = ((fX12_begin 62 1 (ext b LM)).bind fun h => some h) := by
  have ha : (62 : Nat) = b.1 + 1 := by omega
  unfold fX12_init
  rw [co (hdS ha), ob,
    rowS ha (q := 63) (by rw [hb]; rfl) (by simp) rfl,
    rowS ha (q := 64) (by rw [hb]; rfl) (by simp) rfl,
    rowS ha (q := 65) (by rw [hb]; rfl) (by simp) rfl,
    rowS ha (q := 66) (by rw [hb]; rfl) (by simp) rfl,
    rowS ha (q := 67) (by rw [hb]; rfl) (by simp) rfl,
    rowS ha (q := 68) (by rw [hb]; rfl) (by simp) rfl,
    setS ha (by simp) rfl,
    rowS ha (q := 69) (by rw [hb]; rfl) (by simp) rfl,
    setS ha (by simp) rfl,
    rowS ha (q := 70) (by rw [hb]; rfl) (by simp) rfl,
    rowS ha (q := 71) (by rw [hb]; rfl) (by simp) rfl,
    rowS ha (q := 72) (by rw [hb]; rfl) (by simp) rfl,
    rowS ha (q := 73) (by rw [hb]; rfl) (by simp) rfl,
    rowS ha (q := 74) (by rw [hb]; rfl) (by simp) rfl,
    rowS ha (q := 75) (by rw [hb]; rfl) (by simp) rfl,
    rowS ha (q := 76) (by rw [hb]; rfl) (by simp) rfl,
    rowS ha (q := 77) (by rw [hb]; rfl) (by simp) rfl,
    rowS ha (q := 78) (by rw [hb]; rfl) (by simp) rfl,
    rowS ha (q := 79) (by rw [hb]; rfl) (by simp) rfl,
    rowS ha (q := 80) (by rw [hb]; rfl) (by simp) rfl,
    co (hdS ha), ob]
  rfl
theorem ref_init {h : Hp} (hb : h.1 = 61) : ∃ h', fX12_init 62 (ext h [obj 11 [vr 0, vr 0, vr 0, vr 0, vr 0, vr 0, vi 0, vi 0, vi 0, vi 0, vr 0, vi 0, vr 0, vr 0, vr 0, vr 0, vr 0, vr 0, vi 0, vi 0, vr 0, vr 0, vr 0, vr 0, vr 0]]) = some h' ∧ h'.1 = 80 ∧ RI h' (freshS 1) [] x0 0 ∧ ∀ k, k < 62 → h'.2 k = h.2 k := by
  have c : ∀ (i : Nat) {d : AC}, LM[i]? = some d → (ext h LM).2 (62 + i) = some d := fun i d hd => ext_at i (by omega) hd
  have o : (ext h LM).2 62 = some (MO ((0 : Nat) : Int) ((0 : Nat) : Int) (-1) 0 (-1) 0 0) := c 0 rfl
  have M : M6 (ext h LM) (fun _ => 0) (fun _ => 0) (fun _ => 0) (fun _ => 0) (fun _ => 0) (fun _ => 0) := ⟨c 1 rfl, c 2 rfl, c 3 rfl, c 4 rfl, c 5 rfl, c 6 rfl⟩
  obtain ⟨h', P', W', X', K', N', e, o', M', y1, y2, y3, y4, y5, F⟩ := begin_ok o M 1
  have k : ∀ j, 69 ≤ j → h'.2 j = (ext h LM).2 j := fun j hj => F.2 j (by omega)
  have zz : ∀ (i : Nat) (a b : Int) (hab : a = 0) (hb : b = 0) (p : Prop) [Decidable p], (if p then a else b) = 0 := fun i a b h1 h2 p _ => by split <;> assumption
  refine ⟨h', by rw [m_init h hb, e, ob], by rw [F.1, ext_1, hb]; rfl, ⟨⟨0, 0, 0, _, P', W', X', K', N', o', M', ⟨rfl, fun i hi => ?_, fun i hi => ?_, fun i hi => ?_, fun i hi => ?_, fun i hi => ?_⟩, ⟨rfl, by omega, by omega, fun j y hy => by simp at hy⟩, fun z => absurd rfl z⟩, ⟨_, (k 69 (by omega)).trans (c 7 rfl), fun z => absurd rfl z⟩, ⟨_, _, _, (k 70 (by omega)).trans (c 8 rfl), (k 71 (by omega)).trans (c 9 rfl), (k 72 (by omega)).trans (c 10 rfl), fun _ _ => rfl, fun _ _ => rfl, fun _ _ => rfl⟩, ⟨_, _, (k 73 (by omega)).trans (c 11 rfl), (k 74 (by omega)).trans (c 12 rfl), fun j hj => ⟨rfl, fun i hi => rfl⟩⟩, ⟨_, (k 75 (by omega)).trans (c 13 rfl), fun _ _ => rfl⟩, ⟨_, _, _, _, _, (k 76 (by omega)).trans (c 14 rfl), (k 77 (by omega)).trans (c 15 rfl), (k 78 (by omega)).trans (c 16 rfl), (k 79 (by omega)).trans (c 17 rfl), (k 80 (by omega)).trans (c 18 rfl)⟩⟩, fun j hj => (F.2 j (by omega)).trans (ext_lo (by omega))⟩
  · rw [y1, if_pos (by omega)]; rfl
  · rw [y2, if_pos (by omega)]; rfl
  · rw [y3, if_pos (by omega)]; rfl
  · rw [y4, if_pos (by omega)]; rfl
  · rw [y5, if_pos (by have : i < 1 := hi; omega)]; rfl
theorem crf_big (h : Hp) : crf h 1000000 = some () := if_pos (Or.inr (Nat.le_refl _))
theorem law_start (L : Nat) (xs : Nat → Int32) : ∃ h, fL_law L xs (0, fun _ => none) = fL_law_18 L xs 513 1000000 1 62 0 h ∧ Both h := by
  obtain ⟨h1, e1, l1, c1, c2, c3, c4, c5, c6, c7, c8, c9, c10⟩ := cls_init
  obtain ⟨h2, e2, l2, R, k2⟩ := ref_init l1
  have a1 : hadd ((0, fun _ => none) : Hp) (obj 10 [vr 0, vr 0, vr 0, vr 0, vr 0, vr 0, vr 0, vr 0, vr 0, vr 0, vr 0, vi 0]) = ext z0 [obj 10 [vr 0, vr 0, vr 0, vr 0, vr 0, vr 0, vr 0, vr 0, vr 0, vr 0, vr 0, vi 0]] := by
    have := ext_add z0 [] (obj 10 [vr 0, vr 0, vr 0, vr 0, vr 0, vr 0, vr 0, vr 0, vr 0, vr 0, vr 0, vi 0])
    rw [ext_0] at this; exact this
  have a2 : hadd h1 (obj 11 [vr 0, vr 0, vr 0, vr 0, vr 0, vr 0, vi 0, vi 0, vi 0, vi 0, vr 0, vi 0, vr 0, vr 0, vr 0, vr 0, vr 0, vr 0, vi 0, vi 0, vr 0, vr 0, vr 0, vr 0, vr 0]) = ext h1 [obj 11 [vr 0, vr 0, vr 0, vr 0, vr 0, vr 0, vi 0, vi 0, vi 0, vi 0, vr 0, vi 0, vr 0, vr 0, vr 0, vr 0, vr 0, vr 0, vi 0, vi 0, vr 0, vr 0, vr 0, vr 0, vr 0]] := by
    have := ext_add h1 [] (obj 11 [vr 0, vr 0, vr 0, vr 0, vr 0, vr 0, vi 0, vi 0, vi 0, vi 0, vr 0, vi 0, vr 0, vr 0, vr 0, vr 0, vr 0, vr 0, vi 0, vi 0, vr 0, vr 0, vr 0, vr 0, vr 0])
    rw [ext_0] at this; exact this
  refine ⟨h2, ?_, freshS 1, [], x0, 0, ⟨freshS_good (by omega) (by omega), fun y hy => by simp at hy, x0_good⟩, ⟨(k2 1 (by omega)).trans c1, c2.ag (fun j hj => k2 j (by obtain ⟨z1, z2⟩ := hj; omega)), ⟨0, 0, ⟨l2, by omega, by omega, by omega, by simp, fun _ => by simp, (k2 10 (by omega)).trans c3, ⟨_, (k2 11 (by omega)).trans c4, fun j hj => rfl⟩, fun j hj => by omega, fun k s hs => by simp at hs⟩⟩, c5.ag (fun k hk => k2 k (by omega)), c6.ag (fun k hk => k2 k (by omega)), c7.ag (fun k hk => k2 k (by omega)), c8.ag (fun k hk => k2 k (by omega)), c9.ag (fun k hk => k2 k (by omega)), c10.ag (fun k hk => k2 k (by omega))⟩, R⟩
  unfold fL_law
  rw [crf_big, ob, nO, ob]
  show ((cob (hadd ((0, fun _ => none) : Hp) (obj 10 [vr 0, vr 0, vr 0, vr 0, vr 0, vr 0, vr 0, vr 0, vr 0, vr 0, vr 0, vi 0])) 10 1).bind fun _ => (crf (hadd ((0, fun _ => none) : Hp) (obj 10 [vr 0, vr 0, vr 0, vr 0, vr 0, vr 0, vr 0, vr 0, vr 0, vr 0, vr 0, vi 0])) 1).bind fun _ => (crf (hadd ((0, fun _ => none) : Hp) (obj 10 [vr 0, vr 0, vr 0, vr 0, vr 0, vr 0, vr 0, vr 0, vr 0, vr 0, vr 0, vi 0])) 1000000).bind fun _ => (fX11_init 1 (hadd ((0, fun _ => none) : Hp) (obj 10 [vr 0, vr 0, vr 0, vr 0, vr 0, vr 0, vr 0, vr 0, vr 0, vr 0, vr 0, vi 0]))).bind fun _ => _) = _
  rw [a1, co (ext_at (h := z0) (q := 1) 0 rfl rfl), ob, cr (by rw [ext_1]; show 1 ≤ 0 + 1; omega), ob, crf_big, ob, e1, ob, crf_big, ob]
  show ((crf h1 1).bind fun _ => _) = _
  rw [cr (by omega), ob, nO, ob]
  show ((cob (hadd h1 (obj 11 [vr 0, vr 0, vr 0, vr 0, vr 0, vr 0, vi 0, vi 0, vi 0, vi 0, vr 0, vi 0, vr 0, vr 0, vr 0, vr 0, vr 0, vr 0, vi 0, vi 0, vr 0, vr 0, vr 0, vr 0, vr 0])) 11 (h1.1 + 1)).bind fun _ => _) = _
  rw [a2, l1]
  rw [co (hdS (by rw [l1])), ob]
  show ((crf (ext h1 [obj 11 [vr 0, vr 0, vr 0, vr 0, vr 0, vr 0, vi 0, vi 0, vi 0, vi 0, vr 0, vi 0, vr 0, vr 0, vr 0, vr 0, vr 0, vr 0, vi 0, vi 0, vr 0, vr 0, vr 0, vr 0, vr 0]]) 62).bind fun _ => _) = _
  rw [cr (by rw [ext_1, l1]; show 62 ≤ 61 + 1; omega), ob, crf_big, ob]
  show ((crf (ext h1 [obj 11 [vr 0, vr 0, vr 0, vr 0, vr 0, vr 0, vi 0, vi 0, vi 0, vi 0, vr 0, vi 0, vr 0, vr 0, vr 0, vr 0, vr 0, vr 0, vi 0, vi 0, vr 0, vr 0, vr 0, vr 0, vr 0]]) 1).bind fun _ => _) = _
  rw [cr (by rw [ext_1, l1]; omega), ob]
  show ((fX12_init 62 (ext h1 [obj 11 [vr 0, vr 0, vr 0, vr 0, vr 0, vr 0, vi 0, vi 0, vi 0, vi 0, vr 0, vi 0, vr 0, vr 0, vr 0, vr 0, vr 0, vr 0, vi 0, vi 0, vr 0, vr 0, vr 0, vr 0, vr 0]])).bind fun _ => _) = _
  rw [e2, ob]
