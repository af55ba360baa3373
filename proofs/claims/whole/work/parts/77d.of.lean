theorem both_ofr {h : Hp} (B : Both h) (a : Int) (ha : -9223372036854775808 ≤ a ∧ a ≤ 9223372036854775807) : ∃ r h1 h2, fX11_of 1 a h = some (r, h1) ∧ fX12_of 62 a h1 = some (r, h2) ∧ Both h2 := by
  obtain ⟨s, hist, x, flt, G, C, R⟩ := B
  have hn := G.1.2.1
  have hn1 := G.1.1
  obtain ⟨rr, rr2, e0, -⟩ := C.nms
  have ew : won (sn s) 0 = won (sn s - 1) 1 := by
    obtain ⟨m, hm⟩ : ∃ m, sn s = m + 1 := ⟨sn s - 1, by omega⟩
    rw [hm]; show ((0 : Nat) : Int) * won m 0 + won m 1 = won m 1; simp
  have hw : ∀ h2, fX12_waysOn 20 ((sn s : Int) - 1) 1 h2 = some (won (sn s) 0, h2) := by
    intro h2
    have := waysOn_ok h2 20 (sn s - 1) 1 (by omega) (by omega) (by omega)
    rw [show ((sn s - 1 : Nat) : Int) = (sn s : Int) - 1 by omega] at this
    rw [ew]; exact this
  unfold fX11_of fX12_of
  simp only [fX11_of_25, fX12_of_26, lCmp_lt]
  by_cases e : 0 ≤ a ∧ a < won (sn s) 0
  · obtain ⟨h1, e1, C1, F1⟩ := c_change C hn
    obtain ⟨r1, r2, d0, -⟩ := C1.nms
    obtain ⟨h2, g, L, e2, U2, P2, FA⟩ := c_unrank C1 hn (rank := a) ⟨e.1, by omega⟩
    have C2 := C1.setp FA P2
    have F3 : FC h h2 := F1.tr (FC.of FA (fun k hk => by omega))
    obtain ⟨h3, h4, e3, R3, F4, e4, R4, F5⟩ := change2 G R F3
    obtain ⟨N0, m0, q0⟩ := R4.nam
    obtain ⟨pa, fp, sm, o⟩ := R4.obj
    obtain ⟨g', L', N1, e5, U5, q5, k5⟩ := r_of53 R4 hn1 hn (rank := a) ⟨e.1, by omega⟩ m0
    have eg : Eqn (sn s) g' g := (U5.uq U2).1
    have R5 := R4.nm (N' := N1) m0 k5 (fun i hi => (q5 i hi).trans (eg i hi)) (hist12 G)
    refine ⟨1, h2, hput h4 68 (arr 0 252 N1), ?_, ?_, bo ⟨setf_good G.1 U2.rgs, take20_good G.1 G.2.1, G.2.2⟩ C2 (F5.tr (FM.put (q := 68) (by omega))) R5⟩
    · rw [if_neg (by omega), gR 10 C.1 rfl, ob, gR 0 C.1 rfl, ob, gI 0 C.now rfl, ob, co e0, ob, c_allOf C hn, ob, if_pos e.2, co C.1, ob, C.cr1, ob, e1, ob, gR 10 C1.1 rfl, ob, gR 0 C1.1 rfl, ob, gR 5 C1.now rfl, ob, co d0, ob, e2, ob]
    · rw [e3, ob, if_neg (by omega), R3.nb]
      simp only []
      rw [c32_n (by omega) (by omega), ob, hw, ob, if_pos e.2, R3.cb, ob, e4, ob, gR 5 o rfl, ob, ast_of (i := 0) 0 m0 rfl (by omega), ob, e5]
  · obtain ⟨h2, h3, e2, R2, e3, B3⟩ := refuse2 G C R 1
    refine ⟨0, hput h 1 (BO 1), h3, ?_, ?_, B3⟩
    · by_cases e1 : a < 0
      · rw [if_pos e1, co C.1, ob, c_deny C 1, ob, cbo_n (Or.inl rfl), ob]
      · rw [if_neg e1, gR 10 C.1 rfl, ob, gR 0 C.1 rfl, ob, gI 0 C.now rfl, ob, co e0, ob, c_allOf C hn, ob, if_neg (by show ¬ a < won (sn s) 0; omega), co C.1, ob, c_deny C 1, ob, cbo_n (Or.inl rfl), ob]
    · rw [e2, ob]
      by_cases e1 : a < 0
      · rw [if_pos e1, R2.cb, ob, e3, ob]
      · rw [if_neg e1, R2.nb]
        simp only []
        rw [c32_n (by omega) (by omega), ob, hw, ob, if_neg (by show ¬ a < won (sn s) 0; omega), R2.cb, ob, e3, ob]
