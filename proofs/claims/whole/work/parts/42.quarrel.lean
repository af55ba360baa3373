def setQ (s : Scn) (a b : Nat) (v u : Int) : Scn := (sn s, sP s, sW s, ups (ups (sX s) (12 * a + b) v) (12 * b + a) v, ups (ups (sK s) (12 * a + b) u) (12 * b + a) u, sf s)
theorem setQ_X (s : Scn) (a b : Nat) (v u : Int) (k : Nat) : sX (setQ s a b v u) k = if k = 12 * b + a then v else if k = 12 * a + b then v else sX s k := rfl
theorem setQ_K (s : Scn) (a b : Nat) (v u : Int) (k : Nat) : sK (setQ s a b v u) k = if k = 12 * b + a then u else if k = 12 * a + b then u else sK s k := rfl
theorem ups_sym {F : Nat → Int} {a b : Nat} {v : Int} (ha : a < 12) (hb : b < 12) (hF : ∀ c d, c < 12 → d < 12 → F (12 * c + d) = F (12 * d + c)) (c d : Nat) (hc : c < 12) (hd : d < 12) : (if 12 * c + d = 12 * b + a then v else if 12 * c + d = 12 * a + b then v else F (12 * c + d)) = if 12 * d + c = 12 * b + a then v else if 12 * d + c = 12 * a + b then v else F (12 * d + c) := by
  have := hF c d hc hd
  by_cases e1 : 12 * c + d = 12 * b + a
  · rw [if_pos e1]; by_cases e2 : 12 * d + c = 12 * b + a
    · rw [if_pos e2]
    · rw [if_neg e2, if_pos (by omega)]
  · rw [if_neg e1]
    by_cases e3 : 12 * c + d = 12 * a + b
    · rw [if_pos e3, if_pos (by omega)]
    · rw [if_neg e3, if_neg (by omega), if_neg (by omega)]; exact this
theorem setQ_good {s : Scn} (G : GSc s) {a b : Nat} {v u : Int} (ha : a < 12) (hb : b < 12) (hab : a ≠ b) (hv : 0 ≤ v ∧ v ≤ 1000) (hu : u = 0 ∨ u = 1) : GSc (setQ s a b v u) := by
  obtain ⟨g1, g2, g3, g4, g5, g6, g7, g8, g9, g10, g11, g12, g13⟩ := G
  refine ⟨g1, g2, g3, g4, g5, g6, fun i hi => ?_, fun c d hc hd => ?_, fun c hc => ?_, fun i hi => ?_, fun c d hc hd => ?_, fun c hc => ?_, g13⟩
  · rw [setQ_X]; split
    · exact hv
    · split
      · exact hv
      · exact g7 i hi
  · rw [setQ_X, setQ_X]; exact ups_sym ha hb g8 c d hc hd
  · rw [setQ_X, if_neg (by omega), if_neg (by omega)]; exact g9 c hc
  · rw [setQ_K]; split
    · exact hu
    · split
      · exact hu
      · exact g10 i hi
  · rw [setQ_K, setQ_K]; exact ups_sym ha hb g11 c d hc hd
  · rw [setQ_K, if_neg (by omega), if_neg (by omega)]; exact g12 c hc
theorem c_quarrel {h : Hp} {s : Scn} {hist : List Scn} {x : Aux} {flt : Int} (C : CI h s hist x flt) (G : Good s hist x) (a b v u : Int) (hu : u = 0 ∨ u = 1) :
    (∃ i j : Nat, a = i ∧ b = j ∧ i < sn s ∧ j < sn s ∧ i ≠ j ∧ 0 ≤ v ∧ v ≤ 1000 ∧ ∃ h', fX11_quarrel 1 a b v u h = some (1, h') ∧ CI h' (setQ s i j v u) ((s :: hist).take 20) x 0 ∧ FC h h') ∨
    (¬ ((0 ≤ a ∧ a < sn s) ∧ (0 ≤ b ∧ b < sn s) ∧ a ≠ b ∧ 0 ≤ v ∧ v ≤ 1000) ∧ ∃ h', fX11_quarrel 1 a b v u h = some (0, h') ∧ CI h' s hist x 1 ∧ FC h h') := by
  have hn := G.1.2.1
  have bad : ∃ h', fX11_quarrel_20 1 h = some (0, h') ∧ CI h' s hist x 1 ∧ FC h h' := by
    unfold fX11_quarrel_20
    rw [co C.1, ob, c_deny C 1, ob]
    exact ⟨_, rfl, C.set 1, FC.put (by omega)⟩
  unfold fX11_quarrel
  rw [co C.1, ob, c_isCouple C a b, ob]
  by_cases e : (0 ≤ a ∧ a < sn s) ∧ (0 ≤ b ∧ b < sn s) ∧ a ≠ b
  · rw [if_pos e, if_neg one0]
    by_cases v1 : v < 0
    · rw [if_pos v1]; exact Or.inr ⟨by omega, bad⟩
    · rw [if_neg v1]
      by_cases v2 : v ≤ 1000
      · rw [if_pos v2]
        left
        obtain ⟨i, rfl⟩ := Int.eq_ofNat_of_zero_le e.1.1
        obtain ⟨j, rfl⟩ := Int.eq_ofNat_of_zero_le e.2.1.1
        obtain ⟨h1, e1, C1, F1⟩ := c_change C hn
        obtain ⟨P, W, X, K, f, S, z1, z2, z3, z4, z5⟩ := C1.2.1
        refine ⟨i, j, rfl, rfl, by omega, by omega, by omega, by omega, by omega, ?_⟩
        rw [co C.1, ob, C.cr1, ob, e1, ob, gR 0 C1.1 rfl, ob]
        have eu : (if u = 0 then fX11_quarrel_47 0 v j i 2 h1 else fX11_quarrel_47 1 v j i 2 h1) = fX11_quarrel_47 u v j i 2 h1 := by
          rcases hu with rfl | rfl
          · rw [if_pos rfl]
          · rw [if_neg (by decide)]
        rw [eu]
        unfold fX11_quarrel_47
        rw [co S.1, ob, setQuarrel_ok S (by omega) (by omega), ob]
        have kk : ∀ k, ¬ scs 2 k → (hput (hput h1 5 (arr 0 144 (ups (ups X (12 * i + j) v) (12 * j + i) v))) 6 (arr 0 144 (ups (ups K (12 * i + j) u) (12 * j + i) u))).2 k = h1.2 k := fun k hk => (hput_ne (fun z => hk ⟨by omega, by omega⟩)).trans (hput_ne (fun z => hk ⟨by omega, by omega⟩))
        refine ⟨_, rfl, C1.scene rfl kk ⟨P, W, _, _, f, ?_, z1, z2, ups2_eq z3, ups2_eq z4, z5⟩, F1.tr (FC.scene kk)⟩
        obtain ⟨s0, s1, s2, s3, s4, s5⟩ := S
        exact ⟨(hput_ne (by omega)).trans ((hput_ne (by omega)).trans s0), (hput_ne (by omega)).trans ((hput_ne (by omega)).trans s1), (hput_ne (by omega)).trans ((hput_ne (by omega)).trans s2), (hput_ne (by omega)).trans hput_eq, hput_eq, s5.ag (fun l h1 h2 => (hput_ne (by omega)).trans (hput_ne (by omega)))⟩
      · rw [if_neg v2]; exact Or.inr ⟨by omega, bad⟩
  · rw [if_neg e, if_pos rfl]; exact Or.inr ⟨fun z => e ⟨z.1, z.2.1, z.2.2.1⟩, bad⟩
theorem r_quarrel {h : Hp} {s : Scn} {hist : List Scn} {x : Aux} {flt : Int} (R : RI h s hist x flt) (G : Good s hist x) (a b v u : Int) (hu : u = 0 ∨ u = 1) :
    (∀ i j : Nat, a = i → b = j → i < sn s → j < sn s → i ≠ j → 0 ≤ v → v ≤ 1000 → ∃ h', fX12_quarrel 62 a b v u h = some (1, h') ∧ RI h' (setQ s i j v u) ((s :: hist).take 20) x 0 ∧ FM h h') ∧
    (¬ ((0 ≤ a ∧ a < sn s) ∧ (0 ≤ b ∧ b < sn s) ∧ a ≠ b ∧ 0 ≤ v ∧ v ≤ 1000) → ∃ h', fX12_quarrel 62 a b v u h = some (0, h') ∧ RI h' s hist x 1 ∧ FM h h') := by
  have hn := G.1.2.1
  obtain ⟨h0, e0, R0, F0⟩ := R.set 0
  have bad : ∃ h', fX12_quarrel_25 62 h0 = some (0, h') ∧ RI h' s hist x 1 ∧ FM h h' := by
    obtain ⟨h', e, R1, F1⟩ := r_no R0 1
    unfold fX12_quarrel_25
    rw [R0.cb, ob, e, ob]
    exact ⟨h', rfl, R1, F0.tr F1⟩
  unfold fX12_quarrel
  rw [e0, ob, R0.cb, ob, r_arePair R0 a b, ob]
  constructor
  · intro i j ha hb hi hj hij v1 v2
    subst ha; subst hb
    have ec : (0 ≤ (i : Int) ∧ (i : Int) < sn s) ∧ (0 ≤ (j : Int) ∧ (j : Int) < sn s) ∧ (i : Int) ≠ j := ⟨⟨by omega, by omega⟩, ⟨by omega, by omega⟩, by omega⟩
    rw [if_pos ec, if_neg one0, if_neg (by omega), if_pos (by omega)]
    obtain ⟨h1, e1, R1, F1⟩ := r_change R0 G
    rw [R0.cb, ob, e1, ob]
    obtain ⟨⟨pa, fp, sm, Z, P, W, X, K, N, a1, M, S, -⟩, -⟩ := id R1
    obtain ⟨m0, m1, m2, m3, m4, m5⟩ := id M
    rw [gR 3 a1 rfl, ob, ast_of (12 * i + j) m3 (by omega) (by omega), ob, gR 3 ((hput_ne (by omega)).trans a1) rfl, ob, ast_of (12 * j + i) hput_eq (by omega) (by omega), ob, hput_hput, gR 4 ((hput_ne (by omega)).trans a1) rfl, ob, cbo_n hu, ob, ast_of (12 * i + j) ((hput_ne (by omega)).trans m4) (by omega) (by omega), ob, gR 4 ((hput_ne (by omega)).trans ((hput_ne (by omega)).trans a1)) rfl, ob, ob, ast_of (12 * j + i) hput_eq (by omega) (by omega), ob, hput_hput]
    have F2 : Fr (fun k => 63 ≤ k ∧ k ≤ 68) h1 (hput (hput h1 66 (arr 0 3024 (ups (ups X (12 * i + j) v) (12 * j + i) v))) 67 (arr 2 3024 (ups (ups K (12 * i + j) u) (12 * j + i) u))) := (Fr.rf.put ⟨by omega, by omega⟩).put ⟨by omega, by omega⟩
    obtain ⟨t0, t1, t2, t3, t4, t5⟩ := S
    refine ⟨_, rfl, R1.scene F2 ⟨(hput_ne (by omega)).trans ((hput_ne (by omega)).trans m0), (hput_ne (by omega)).trans ((hput_ne (by omega)).trans m1), (hput_ne (by omega)).trans ((hput_ne (by omega)).trans m2), (hput_ne (by omega)).trans hput_eq, hput_eq, (hput_ne (by omega)).trans ((hput_ne (by omega)).trans m5)⟩ ⟨t0, t1, t2, fun k hk => ?_, fun k hk => ?_, t5⟩ ?_, F0.tr (F1.tr ⟨F2.1, fun k hk => F2.2 k (by omega)⟩)⟩
    · rw [setQ_X]
      have := t3 k hk
      simp only [Nat.mul_zero, Nat.zero_add] at this ⊢
      simp only [ups_at, this]
    · rw [setQ_K]
      have := t4 k hk
      simp only [Nat.mul_zero, Nat.zero_add] at this ⊢
      simp only [ups_at, this]
    · intro Z0 P0 W0 X0 K0 N0 M0 t y ht1 ht2 hy
      obtain ⟨u0, u1, u2, u3, u4, u5⟩ := M.uq M0
      subst u0; subst u1; subst u2; subst u3; subst u4; subst u5
      obtain ⟨y0, y1, y2, y3, y4, y5⟩ := hy
      refine ⟨y0, y1, y2, fun k hk => ?_, fun k hk => ?_, y5⟩
      · simp only [ups_at]
        rw [if_neg (by omega), if_neg (by omega)]; exact y3 k hk
      · simp only [ups_at]
        rw [if_neg (by omega), if_neg (by omega)]; exact y4 k hk
  · intro hne
    by_cases e : (0 ≤ a ∧ a < sn s) ∧ (0 ≤ b ∧ b < sn s) ∧ a ≠ b
    · rw [if_pos e, if_neg one0]
      by_cases v1 : v < 0
      · rw [if_pos v1]; exact bad
      · rw [if_neg v1]
        by_cases v2 : v ≤ 1000
        · exact absurd ⟨e.1, e.2.1, e.2.2, by omega, v2⟩ hne
        · rw [if_neg v2]; exact bad
    · rw [if_neg e, if_pos rfl]; exact bad
theorem both_quarrel {h : Hp} (B : Both h) (a b v u : Int) (hu : u = 0 ∨ u = 1) : ∃ r h1 h2, fX11_quarrel 1 a b v u h = some (r, h1) ∧ fX12_quarrel 62 a b v u h1 = some (r, h2) ∧ Both h2 := by
  obtain ⟨s, hist, x, flt, G, C, R⟩ := B
  rcases c_quarrel C G a b v u hu with ⟨i, j, ha, hb, hi, hj, hij, v1, v2, h1, e1, C1, F1⟩ | ⟨hne, h1, e1, C1, F1⟩
  · obtain ⟨h2, e2, R2, F2⟩ := (r_quarrel (R.ag F1) G a b v u hu).1 i j ha hb hi hj hij v1 v2
    have hn := G.1.2.1
    exact ⟨_, h1, h2, e1, e2, both_of (s := s) (hist := hist) (x := x) (flt := flt) (h := h) ⟨setQ_good G.1 (by omega) (by omega) hij ⟨v1, v2⟩ hu, take20_good G.1 G.2.1, G.2.2⟩ C1 F2 R2⟩
  · obtain ⟨h2, e2, R2, F2⟩ := (r_quarrel (R.ag F1) G a b v u hu).2 hne
    exact ⟨_, h1, h2, e1, e2, both_of (s := s) (hist := hist) (x := x) (flt := flt) (h := h) G C1 F2 R2⟩
