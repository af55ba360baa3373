theorem both_pair {h : Hp} (B : Both h) (a b w : Int) : ∃ r h1 h2, fX11_pair 1 a b w h = some (r, h1) ∧ fX12_pair 62 a b w h1 = some (r, h2) ∧ Both h2 := by
  obtain ⟨s, hist, x, flt, G, C, R⟩ := B
  have hn := G.1.2.1
  have R1 := R.ag (FC.put (h := h) (q := 1) (c := BO 1) (by omega))
  obtain ⟨h2, e2, R2, F2⟩ := R1.set 0
  obtain ⟨h3, e3, R3, F3⟩ := r_no R2 1
  have B3 : Both h3 := both_of (s := s) (hist := hist) (x := x) (flt := flt) (h := h) G (C.set 1) (F2.tr F3) R3
  have badR : fX12_pair_30 62 h2 = some (-1, h3) := by unfold fX12_pair_30; rw [R2.cb, ob, e3, ob]
  have badC : fX11_pair_16 1 h = some (-1, hput h 1 (BO 1)) := by unfold fX11_pair_16; rw [co C.1, ob, c_refuse C 1, ob]
  by_cases ea : 0 ≤ a ∧ a < sn s
  · by_cases eb : 0 ≤ b ∧ b < sn s
    · obtain ⟨i, rfl⟩ := Int.eq_ofNat_of_zero_le ea.1
      obtain ⟨j, rfl⟩ := Int.eq_ofNat_of_zero_le eb.1
      have hi : i < sn s := by omega
      have hj : j < sn s := by omega
      have C1 := C.set 0
      obtain ⟨P, W, X, K, f, S, z1, z2, z3, z4, z5⟩ := C1.2.1
      have Rg := R.ag (FC.put (h := h) (q := 1) (c := BO 0) (by omega))
      obtain ⟨g2, k2, Q2, H2⟩ := Rg.set 0
      have Bg : Both g2 := both_of (s := s) (hist := hist) (x := x) (flt := flt) (h := h) G C1 H2 Q2
      obtain ⟨⟨pa, fp, sm, Z, P', W', X', K', N, a1, ⟨m0, m1, m2, m3, m4, m5⟩, ⟨t0, t1, t2, t3, t4, t5⟩, -⟩, -⟩ := id Q2
      have q2 := t2 (12 * i + j) (by omega); have q3 := t3 (12 * i + j) (by omega); have q4 := t4 (12 * i + j) (by omega)
      simp only [Nat.mul_zero, Nat.zero_add] at q2 q3 q4
      have d1 := G.1.2.2.2.2.2.1 i (by omega)
      have d2 := G.1.2.2.2.2.2.2.2.2.1 i (by omega)
      have d3 := G.1.2.2.2.2.2.2.2.2.2.2.2.1 i (by omega)
      have k01 := G.1.2.2.2.2.2.2.2.2.2.1 (12 * i + j) (by omega)
      by_cases w0 : w = 0
      · refine ⟨sW s (12 * i + j), hput h 1 (BO 0), g2, ?_, ?_, Bg⟩
        · unfold fX11_pair
          rw [co C.1, ob, c_isThing C i, ob, if_pos ea, if_neg one0, co C.1, ob, c_isThing C j, ob, if_pos eb, if_neg one0, C.put1 0, ob, if_pos w0, gR 0 C1.1 rfl, ob, co S.1, ob, wayOf_ok S (by omega) (by omega), ob, z2 (12 * i + j) (by omega)]
        · unfold fX12_pair
          rw [k2, ob, Q2.cb, ob, r_isThing Q2 i, ob, if_pos ea, if_neg one0, Q2.cb, ob, r_isThing Q2 j, ob, if_pos eb, if_neg one0, if_neg (by omega), if_pos (by omega), c32_n (by omega) (by omega), ob]
          by_cases ij : (i : Int) = j
          · have : i = j := by omega
            subst this
            rw [if_pos rfl, d1]; rfl
          · rw [if_neg ij, if_pos w0, gR 2 a1 rfl, ob, ald_of (12 * i + j) m2 (by omega) (by omega), ob, q2]; rfl
      by_cases w1 : w = 1
      · refine ⟨sX s (12 * i + j), hput h 1 (BO 0), g2, ?_, ?_, Bg⟩
        · unfold fX11_pair
          rw [co C.1, ob, c_isThing C i, ob, if_pos ea, if_neg one0, co C.1, ob, c_isThing C j, ob, if_pos eb, if_neg one0, C.put1 0, ob, if_neg w0, if_pos w1, gR 0 C1.1 rfl, ob, co S.1, ob, weightOf_ok S (by omega) (by omega), ob, z3 (12 * i + j) (by omega)]
        · unfold fX12_pair
          rw [k2, ob, Q2.cb, ob, r_isThing Q2 i, ob, if_pos ea, if_neg one0, Q2.cb, ob, r_isThing Q2 j, ob, if_pos eb, if_neg one0, if_neg (by omega), if_pos (by omega), c32_n (by omega) (by omega), ob]
          by_cases ij : (i : Int) = j
          · have : i = j := by omega
            subst this
            rw [if_pos rfl, d2]; rfl
          · rw [if_neg ij, if_neg w0, if_pos w1, gR 3 a1 rfl, ob, ald_of (12 * i + j) m3 (by omega) (by omega), ob, q3]; rfl
      by_cases w2 : w = 2
      · refine ⟨sK s (12 * i + j), hput h 1 (BO 0), g2, ?_, ?_, Bg⟩
        · unfold fX11_pair
          rw [co C.1, ob, c_isThing C i, ob, if_pos ea, if_neg one0, co C.1, ob, c_isThing C j, ob, if_pos eb, if_neg one0, C.put1 0, ob, if_neg w0, if_neg w1, if_pos w2, gR 0 C1.1 rfl, ob, co S.1, ob, likeOf_ok S (by omega) (by omega), ob, z4 (12 * i + j) (by omega)]
        · unfold fX12_pair
          rw [k2, ob, Q2.cb, ob, r_isThing Q2 i, ob, if_pos ea, if_neg one0, Q2.cb, ob, r_isThing Q2 j, ob, if_pos eb, if_neg one0, if_neg (by omega), if_pos (by omega), c32_n (by omega) (by omega), ob]
          by_cases ij : (i : Int) = j
          · have : i = j := by omega
            subst this
            rw [if_pos rfl, d3]; rfl
          · rw [if_neg ij, if_neg w0, if_neg w1, gR 4 a1 rfl, ob, ald_of (12 * i + j) m4 (by omega) (by omega), ob, q4]
            rcases k01 with z | z
            · rw [if_pos z, z]; rfl
            · rw [if_neg (by omega), z]; rfl
      · refine ⟨-1, hput h 1 (BO 1), h3, ?_, ?_, B3⟩
        · unfold fX11_pair
          rw [co C.1, ob, c_isThing C i, ob, if_pos ea, if_neg one0, co C.1, ob, c_isThing C j, ob, if_pos eb, if_neg one0, C.put1 0, ob, if_neg w0, if_neg w1, if_neg w2, co C1.1, ob, c_refuse C1 1, ob, hput_hput]
        · unfold fX12_pair
          rw [e2, ob, R2.cb, ob, r_isThing R2 i, ob, if_pos ea, if_neg one0, R2.cb, ob, r_isThing R2 j, ob, if_pos eb, if_neg one0]
          by_cases wn : w < 0
          · rw [if_pos wn, badR]
          · rw [if_neg wn, if_neg (by omega), badR]
    · refine ⟨-1, hput h 1 (BO 1), h3, ?_, ?_, B3⟩
      · unfold fX11_pair
        rw [co C.1, ob, c_isThing C a, ob, if_pos ea, if_neg one0, co C.1, ob, c_isThing C b, ob, if_neg eb, if_pos rfl, badC]
      · unfold fX12_pair
        rw [e2, ob, R2.cb, ob, r_isThing R2 a, ob, if_pos ea, if_neg one0, R2.cb, ob, r_isThing R2 b, ob, if_neg eb, if_pos rfl, badR]
  · refine ⟨-1, hput h 1 (BO 1), h3, ?_, ?_, B3⟩
    · unfold fX11_pair
      rw [co C.1, ob, c_isThing C a, ob, if_neg ea, if_pos rfl, badC]
    · unfold fX12_pair
      rw [e2, ob, R2.cb, ob, r_isThing R2 a, ob, if_neg ea, if_pos rfl, badR]
