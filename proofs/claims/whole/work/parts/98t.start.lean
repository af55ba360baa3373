/-! constructors: the start of both -/
def zf : Nat → Int := fun _ => 0
def x0 : Aux := ((-1, 0, fun _ => 0), (-1, fun _ => 0, fun _ => 0, fun _ => 0), (fun _ => (0, fun _ => 0)), (0, fun _ => 0))
theorem x0_good : GAx 1 x0 := ⟨Or.inl rfl, Or.inl rfl, fun j _ => ⟨by show (0 : Nat) ≤ 12; omega, fun i hi => by have : i < 0 := hi; omega⟩, by show (0 : Nat) ≤ 12; omega, fun i hi => by have : i < 0 := hi; omega⟩
theorem keeps_ok {h0 : Hp} (e1 : h0.1 = 49) (o : h0.2 1 = some (BO 0)) {r0 : Nat → Nat} (k0 : h0.2 19 = some (rar 5 4 r0)) : ∃ h', fX11_init_137 5 1 0 h0 = some h' ∧ h'.1 = 61 ∧ (∃ r, h'.2 19 = some (rar 5 4 r) ∧ ∀ j, j < 4 → r j = 50 + 3 * j) ∧ (∀ j, j < 4 → isPt h' (50 + 3 * j) 0 0 (fun _ => 0)) ∧ ∀ k, k ≤ 49 → k ≠ 19 → h'.2 k = h0.2 k := by
  refine lp (fun N i (h : Hp) => fX11_init_137 N 1 i h) (fun i h => h.1 = 49 + 3 * i ∧ (∃ r, h.2 19 = some (rar 5 4 r) ∧ ∀ j, j < i → r j = 50 + 3 * j) ∧ (∀ j, j < i → isPt h (50 + 3 * j) 0 0 (fun _ => 0)) ∧ ∀ k, k ≤ 49 → k ≠ 19 → h.2 k = h0.2 k) 4 (fun r => ∃ h', r = some h' ∧ h'.1 = 61 ∧ (∃ r, h'.2 19 = some (rar 5 4 r) ∧ ∀ j, j < 4 → r j = 50 + 3 * j) ∧ (∀ j, j < 4 → isPt h' (50 + 3 * j) 0 0 (fun _ => 0)) ∧ ∀ k, k ≤ 49 → k ≠ 19 → h'.2 k = h0.2 k) ?_ ?_ 5 0 h0 (Nat.zero_le _) (by omega) ⟨by omega, ⟨r0, k0, fun j hj => by omega⟩, fun j hj => by omega, fun _ _ _ => rfl⟩
  · intro N i h hi ⟨a1, ⟨r, a2, a3⟩, a4, a5⟩
    have o1 : h.2 1 = some (BO 0) := (a5 1 (by omega) (by omega)).trans o
    have e : hadd h (obj 5 [vi 0, vi 0, vr 0, vr 0]) = ext h [obj 5 [vi 0, vi 0, vr 0, vr 0]] := by
      have := ext_add h [] (obj 5 [vi 0, vi 0, vr 0, vr 0])
      rw [ext_0] at this; exact this
    have c0 : (ext h (cPt (50 + 3 * i))).2 (50 + 3 * i) = some (obj 5 [vi 0, vi 0, vr (50 + 3 * i + 1), vr (50 + 3 * i + 2)]) := ext_at 0 (by omega) rfl
    have c1 : (ext h (cPt (50 + 3 * i))).2 (50 + 3 * i + 1) = some (arr 0 12 (fun _ => 0)) := ext_at 1 (by omega) rfl
    have c2 : (ext h (cPt (50 + 3 * i))).2 (50 + 3 * i + 2) = some (arr 0 13 (fun _ => 0)) := ext_at 2 (by omega) rfl
    have c19 : (ext h (cPt (50 + 3 * i))).2 19 = some (rar 5 4 r) := (ext_lo (by omega)).trans a2
    have el : (ext h (cPt (50 + 3 * i))).1 = h.1 + 3 := rfl
    have est : rst (ext h (cPt (50 + 3 * i))) 5 19 (i : Int) (50 + 3 * i) = some (hput (ext h (cPt (50 + 3 * i))) 19 (rar 5 4 (ups r i (50 + 3 * i)))) := by
      unfold rst; rw [c19, c0]; simp only [Int.toNat_natCast]; rw [if_pos ⟨trivial, trivial, by omega, by omega⟩]
    refine ⟨hput (ext h (cPt (50 + 3 * i))) 19 (rar 5 4 (ups r i (50 + 3 * i))), ⟨by rw [hput_1, el]; omega, ⟨_, hput_eq, fun j hj => ?_⟩, fun j hj => ?_, fun k hk hk2 => ?_⟩, ?_⟩
    · rw [ups_at]
      by_cases w : j = i
      · rw [if_pos w, w]
      · rw [if_neg w]; exact a3 j (by omega)
    · by_cases w : j = i
      · subst w
        exact ⟨(hput_ne (by omega)).trans c0, (hput_ne (by omega)).trans c1, _, (hput_ne (by omega)).trans c2⟩
      · exact (a4 j (by omega)).ag (fun l h1 h2 => (hput_ne (by omega)).trans (ext_lo (by omega)))
    · rw [hput_ne hk2, ext_lo (by omega)]; exact a5 k hk hk2
    · show fX11_init_137 (N + 1) 1 i h = fX11_init_137 N 1 ((i + 1 : Nat) : Int) _
      rw [fX11_init_137, if_neg (by omega), gR 4 o1 rfl, ob, cr (by omega), ob, nO, ob]
      show ((cob (hadd h (obj 5 [vi 0, vi 0, vr 0, vr 0])) 5 (h.1 + 1)).bind fun _ => (crf (hadd h (obj 5 [vi 0, vi 0, vr 0, vr 0])) (h.1 + 1)).bind fun _ => (crf (hadd h (obj 5 [vi 0, vi 0, vr 0, vr 0])) 19).bind fun _ => (crf (hadd h (obj 5 [vi 0, vi 0, vr 0, vr 0])) 1).bind fun _ => (fX6_init (h.1 + 1) (hadd h (obj 5 [vi 0, vi 0, vr 0, vr 0]))).bind fun h9 => (rst h9 5 19 i (h.1 + 1)).bind fun h10 => (c32 ((i : Int) + 1)).bind fun _ => fX11_init_137 N 1 ((i : Int) + 1) h10) = _
      rw [show h.1 + 1 = 50 + 3 * i by omega, e, co (hdS (by omega)), ob, cr (by rw [ext_1]; simp only [List.length_cons, List.length_nil]; omega), ob, cr (by rw [ext_1]; omega), ob, cr (by rw [ext_1]; omega), ob, i_pt (50 + 3 * i) h (by omega), ob, est, ob, c32_n (by omega) (by omega), ob]
      rfl
  · intro N h ⟨a1, a2, a3, a4⟩
    show ∃ h', fX11_init_137 (N + 1) 1 ((4 : Nat) : Int) h = some h' ∧ _
    rw [fX11_init_137, if_pos (by omega), fX11_init_161]
    exact ⟨h, rfl, by omega, a2, a3, a4⟩
theorem cls_init : ∃ h1, fX11_init 1 (ext z0 [obj 10 [vr 0, vr 0, vr 0, vr 0, vr 0, vr 0, vr 0, vr 0, vr 0, vr 0, vr 0, vi 0]]) = some h1 ∧ h1.1 = 61 ∧ h1.2 1 = some (BO 0) ∧ CSc h1 2 (freshS 1) ∧ h1.2 10 = some (obj 0 [vi 0, vi 0, vr 11]) ∧ h1.2 11 = some (rar 6 20 (fun _ => 0)) ∧ CShe h1 x0.1 ∧ CTre h1 x0.2.1 ∧ CKep h1 x0.2.2.1 ∧ CTol h1 x0.2.2.2 ∧ CScr h1 ∧ CNam h1 := by
  obtain ⟨r, hr, e⟩ := b_init
  have S : isSq (ext z0 (LBn r)) 2 1 0 (fun _ => 0) (fun _ => 0) (fun _ => 0) (fun _ => 0) 0 (fun _ => 0) := ⟨ext_at (q := 2) 1 rfl rfl, ext_at (q := 3) 2 rfl rfl, ext_at (q := 4) 3 rfl rfl, ext_at (q := 5) 4 rfl rfl, ext_at (q := 6) 5 rfl rfl, ext_at (q := 7) 6 rfl rfl, ext_at (q := 8) 7 rfl rfl, _, ext_at (q := 9) 8 rfl rfl⟩
  obtain ⟨h2, P', W', X', K', f', e2, S2, z1, z2, z3, z4, z5, F⟩ := restart_ok S 1
  have lo : ∀ k, k < 2 ∨ 9 < k → h2.2 k = (ext z0 (LBn r)).2 k := fun k hk => F.2 k (by intro z; obtain ⟨y1, y2⟩ := z; omega)
  obtain ⟨h3, e3, l3, k3, p3, f3⟩ := keeps_ok (h0 := h2) (F.1.trans rfl) ((lo 1 (by omega)).trans (ext_at (q := 1) 0 rfl rfl)) ((lo 19 (by omega)).trans (ext_at (q := 19) 18 rfl rfl))
  have cl : ∀ k, k < 2 ∨ 9 < k → k ≤ 49 → k ≠ 19 → h3.2 k = (ext z0 (LBn r)).2 k := fun k h1 h2 h3 => (f3 k h2 h3).trans (lo k h1)
  refine ⟨h3, by rw [e, e2, ob, e3], l3, (cl 1 (by omega) (by omega) (by omega)).trans (ext_at (q := 1) 0 rfl rfl), ?_, (cl 10 (by omega) (by omega) (by omega)).trans (ext_at (q := 10) 9 rfl rfl), (cl 11 (by omega) (by omega) (by omega)).trans (ext_at (q := 11) 10 rfl rfl), ?_, ?_, ?_, ?_, ?_, ?_⟩
  · refine ⟨P', W', X', K', f', ?_, z1, z2, z3, z4, fun i hi => z5 i (by have : i < 1 := hi; omega)⟩
    have : mx (sf (freshS 1)) (sn (freshS 1)) = 1 := mx_0 (Nat.le_refl _)
    rw [this]
    exact isSq.ag S2 (fun j hj => by obtain ⟨y1, y2⟩ := hj; exact f3 j (by omega) (by omega))
  · exact ⟨-1, fun _ => 0, ⟨(cl 12 (by omega) (by omega) (by omega)).trans (ext_at (q := 12) 11 rfl rfl), (cl 13 (by omega) (by omega) (by omega)).trans (ext_at (q := 13) 12 rfl rfl)⟩, fun _ => ⟨rfl, fun _ _ => rfl⟩, fun z => absurd rfl z⟩
  · exact ⟨0, 0, _, _, _, _, (cl 14 (by omega) (by omega) (by omega)).trans (ext_at (q := 14) 13 rfl rfl), (cl 15 (by omega) (by omega) (by omega)).trans (ext_at (q := 15) 14 rfl rfl), (cl 16 (by omega) (by omega) (by omega)).trans (ext_at (q := 16) 15 rfl rfl), (cl 17 (by omega) (by omega) (by omega)).trans (ext_at (q := 17) 16 rfl rfl), (cl 18 (by omega) (by omega) (by omega)).trans (ext_at (q := 18) 17 rfl rfl), fun _ _ => rfl, fun _ _ => rfl, fun _ _ => rfl⟩
  · exact ⟨k3, fun j hj => ⟨0, fun _ => 0, p3 j hj, fun _ _ => rfl⟩⟩
  · exact ⟨0, fun _ => 0, ⟨(cl 20 (by omega) (by omega) (by omega)).trans (ext_at (q := 20) 19 rfl rfl), (cl 21 (by omega) (by omega) (by omega)).trans (ext_at (q := 21) 20 rfl rfl), _, (cl 22 (by omega) (by omega) (by omega)).trans (ext_at (q := 22) 21 rfl rfl)⟩, fun _ _ => rfl⟩
  · refine ⟨⟨0, 0, 0, 0, _, _, _, (cl 23 (by omega) (by omega) (by omega)).trans (ext_at (q := 23) 22 rfl rfl), (cl 24 (by omega) (by omega) (by omega)).trans (ext_at (q := 24) 23 rfl rfl), (cl 25 (by omega) (by omega) (by omega)).trans (ext_at (q := 25) 24 rfl rfl), (cl 26 (by omega) (by omega) (by omega)).trans (ext_at (q := 26) 25 rfl rfl)⟩, ?_, ?_, ?_, ?_⟩
    · exact ⟨_, _, 0, 0, fun _ => 0, (cl 27 (by omega) (by omega) (by omega)).trans (ext_at (q := 27) 26 rfl rfl), (cl 28 (by omega) (by omega) (by omega)).trans (ext_at (q := 28) 27 rfl rfl), (cl 29 (by omega) (by omega) (by omega)).trans (ext_at (q := 29) 28 rfl rfl), (cl 30 (by omega) (by omega) (by omega)).trans (ext_at (q := 30) 29 rfl rfl), (cl 31 (by omega) (by omega) (by omega)).trans (ext_at (q := 31) 30 rfl rfl), _, (cl 32 (by omega) (by omega) (by omega)).trans (ext_at (q := 32) 31 rfl rfl)⟩
    · refine ⟨1, 0, fun _ => 0, fun _ => 0, fun _ => 0, fun _ => 0, 0, fun _ => 0, ⟨(cl 33 (by omega) (by omega) (by omega)).trans (ext_at (q := 33) 32 rfl rfl), (cl 34 (by omega) (by omega) (by omega)).trans (ext_at (q := 34) 33 rfl rfl), (cl 35 (by omega) (by omega) (by omega)).trans (ext_at (q := 35) 34 rfl rfl), (cl 36 (by omega) (by omega) (by omega)).trans (ext_at (q := 36) 35 rfl rfl), (cl 37 (by omega) (by omega) (by omega)).trans (ext_at (q := 37) 36 rfl rfl), (cl 38 (by omega) (by omega) (by omega)).trans (ext_at (q := 38) 37 rfl rfl), (cl 39 (by omega) (by omega) (by omega)).trans (ext_at (q := 39) 38 rfl rfl), _, (cl 40 (by omega) (by omega) (by omega)).trans (ext_at (q := 40) 39 rfl rfl)⟩, fun i hi => ⟨by show (0 : Int) ≤ 0; omega, by show (0 : Int) ≤ 10000; omega⟩, fun a ha => rfl, fun i hi => ⟨rfl, rfl⟩⟩
    · exact ⟨0, _, _, (cl 41 (by omega) (by omega) (by omega)).trans (ext_at (q := 41) 40 rfl rfl), (cl 42 (by omega) (by omega) (by omega)).trans (ext_at (q := 42) 41 rfl rfl), (cl 43 (by omega) (by omega) (by omega)).trans (ext_at (q := 43) 42 rfl rfl)⟩
    · exact ⟨_, _, (cl 44 (by omega) (by omega) (by omega)).trans (ext_at (q := 44) 43 rfl rfl), (cl 45 (by omega) (by omega) (by omega)).trans (ext_at (q := 45) 44 rfl rfl), (cl 46 (by omega) (by omega) (by omega)).trans (ext_at (q := 46) 45 rfl rfl)⟩
  · exact ⟨⟨r, (cl 48 (by omega) (by omega) (by omega)).trans (ext_at (q := 48) 47 rfl rfl), hr⟩, ⟨_, (cl 49 (by omega) (by omega) (by omega)).trans (ext_at (q := 49) 48 rfl rfl)⟩, (cl 47 (by omega) (by omega) (by omega)).trans (ext_at (q := 47) 46 rfl rfl)⟩
