-- X12_quarrel
noncomputable def fX12_quarrel_25 (x0 : Nat) (h : Hp) : Option (Int × Hp) :=
  (cob h 11 x0).bind fun _ => (fX12_no x0 1 h).bind fun p2 => some (0, p2.2)
theorem tX12_quarrel_25 {L : Nat} {xs : Nat → Int32} {l : Launch} {res : Int × Hp} (x0 : Nat) (h : Hp)  (H : fX12_quarrel_25 x0 h = some res) : J L xs l RX12 cX12_quarrel 5 false 4 (QB res) 0 0 25 [(0, vr x0)] [] h := by
  unfold fX12_quarrel_25 at H
  refine j_aload_n (i := 0) (pc' := 26) dX12_quarrel_25 rfl rfl 0 rfl ?_
  refine j_iconst (pc' := 27) dX12_quarrel_26 rfl ?_
  obtain ⟨u1, e1, H⟩ := bs H
  obtain ⟨p2, e2, H⟩ := bs H
  refine j_cVi (y := yX12_no) (dY := 1) (vs := [vi 1]) (st := []) (q := x0) (pc' := 30) dX12_quarrel_27 rfl ymX12_no yvX12_no ml_X12_98 (by decide) rfl (Nat.le_of_ble_eq_true rfl) (Nat.le_of_ble_eq_true rfl) e1 (tX12_no x0 1 h ⟨by decide, by decide⟩ e2) (fun r2 z2 => ?_)
  refine j_pop (pc' := 31) dX12_quarrel_30 rfl rfl ?_
  refine j_iconst (pc' := 32) dX12_quarrel_31 rfl ?_
  obtain rfl := Option.some.inj H
  exact j_iret dX12_quarrel_32 ⟨by decide, by decide⟩ ⟨rfl, rfl, Or.inl rfl⟩
noncomputable def fX12_quarrel (a0 : Nat) (a1 : Int) (a2 : Int) (a3 : Int) (a4 : Int) (h : Hp) : Option (Int × Hp) :=
  (putV h 11 a0 19 (vi 0)).bind fun h1 => (cob h1 11 a0).bind fun _ => (fX12_arePair a0 a1 a2 h1).bind fun p3 => if p3.1 = 0 then (fX12_quarrel_25 a0 p3.2) else (if a3 < 0 then (fX12_quarrel_25 a0 p3.2) else (if a3 ≤ 1000 then ((cob p3.2 11 a0).bind fun _ => (fX12_change a0 p3.2).bind fun h8 => (getR h8 11 a0 3).bind fun v9 => (ast h8 0 v9 ((12 * a1) + a2) a3).bind fun h10 => (getR h10 11 a0 3).bind fun v11 => (ast h10 0 v11 ((12 * a2) + a1) a3).bind fun h12 => (getR h12 11 a0 4).bind fun v13 => (cbo a4).bind fun _ => (ast h12 2 v13 ((12 * a1) + a2) a4).bind fun h15 => (getR h15 11 a0 4).bind fun v16 => (cbo a4).bind fun _ => (ast h15 2 v16 ((12 * a2) + a1) a4).bind fun h18 => some (1, h18)) else (fX12_quarrel_25 a0 p3.2)))
theorem tX12_quarrel {L : Nat} {xs : Nat → Int32} {l : Launch} {res : Int × Hp} (a0 : Nat) (a1 : Int) (a2 : Int) (a3 : Int) (a4 : Int) (h : Hp) (ra1 : R32 a1) (ra2 : R32 a2) (ra3 : R32 a3) (ra4 : R32 a4) (H : fX12_quarrel a0 a1 a2 a3 a4 h = some res) : J L xs l RX12 cX12_quarrel 5 false 4 (QB res) 0 0 0 (alv 0 [vr a0, vi a1, vi a2, vi a3, vi a4]) [] h := by
  unfold fX12_quarrel at H
  show J L xs l RX12 cX12_quarrel 5 false 4 (QB res) 0 0 0 [(0, vr a0), (1, vi a1), (2, vi a2), (3, vi a3), (4, vi a4)] [] h
  refine j_aload_n (i := 0) (pc' := 1) dX12_quarrel_0 rfl rfl 0 rfl ?_
  refine j_iconst (pc' := 2) dX12_quarrel_1 rfl ?_
  obtain ⟨h1, e1, H⟩ := bs H
  refine j_putV (pc' := 5) dX12_quarrel_2 rfl fp_X12_77 tI ⟨by decide, by decide⟩ e1 ?_
  refine j_aload_n (i := 0) (pc' := 6) dX12_quarrel_5 rfl rfl 0 rfl ?_
  refine j_iload_n (i := 1) (pc' := 7) dX12_quarrel_6 rfl rfl 1 rfl ?_
  refine j_iload_n (i := 2) (pc' := 8) dX12_quarrel_7 rfl rfl 2 rfl ?_
  obtain ⟨u2, e2, H⟩ := bs H
  obtain ⟨p3, e3, H⟩ := bs H
  refine j_cVb (y := yX12_arePair) (dY := 3) (vs := [vi a1, vi a2]) (st := []) (q := a0) (pc' := 11) dX12_quarrel_8 rfl ymX12_arePair yvX12_arePair ml_X12_105 (by decide) rfl (Nat.le_of_ble_eq_true rfl) (Nat.le_of_ble_eq_true rfl) e2 (tX12_arePair a0 a1 a2 h1 ra1 ra2 e3) (fun r3 b3 z3 => ?_)
  refine j_if_eq (tgt := 25) (pc' := 14) dX12_quarrel_11 (by decide) rfl r3 (fun c4 => ?_) (fun c4 => ?_)
  · rw [if_pos c4] at H
    refine j_sub (lv' := [(0, vr a0)]) [0] rfl ?_
    exact tX12_quarrel_25   a0 p3.2  H
  · rw [if_neg c4] at H
    refine j_iload_n (i := 3) (pc' := 15) dX12_quarrel_14 rfl rfl 3 rfl ?_
    refine j_if_lt (tgt := 25) (pc' := 18) dX12_quarrel_15 (by decide) rfl ra3 (fun c5 => ?_) (fun c5 => ?_)
    · rw [if_pos c5] at H
      refine j_sub (lv' := [(0, vr a0)]) [0] rfl ?_
      exact tX12_quarrel_25   a0 p3.2  H
    · rw [if_neg c5] at H
      refine j_iload_n (i := 3) (pc' := 19) dX12_quarrel_18 rfl rfl 3 rfl ?_
      refine j_sipush (pc' := 22) dX12_quarrel_19 rfl (by decide +kernel) ?_
      refine j_icmp_le (tgt := 33) (pc' := 25) dX12_quarrel_22 (by decide) rfl ra3 ⟨by decide, by decide⟩ (fun c6 => ?_) (fun c6 => ?_)
      · rw [if_pos c6] at H
        refine j_aload_n (i := 0) (pc' := 34) dX12_quarrel_33 rfl rfl 0 rfl ?_
        obtain ⟨u7, e7, H⟩ := bs H
        obtain ⟨h8, e8, H⟩ := bs H
        refine j_cVv (y := yX12_change) (dY := 2) (vs := []) (st := []) (q := a0) (pc' := 37) dX12_quarrel_34 rfl ymX12_change yvX12_change ml_X12_102 (by decide) rfl (Nat.le_of_ble_eq_true rfl) (Nat.le_of_ble_eq_true rfl) e7 (tX12_change a0 p3.2 e8) (fun z8 => ?_)
        refine j_aload_n (i := 0) (pc' := 38) dX12_quarrel_37 rfl rfl 0 rfl ?_
        obtain ⟨v9, e9, H⟩ := bs H
        refine j_getR (pc' := 41) dX12_quarrel_38 rfl fl_X12_19 e9 (fun r9 => ?_)
        refine j_bipush (pc' := 43) dX12_quarrel_41 rfl (by decide +kernel) ?_
        refine j_iload_n (i := 1) (pc' := 44) dX12_quarrel_43 rfl rfl 1 rfl ?_
        refine j_imul (pc' := 45) dX12_quarrel_44 rfl ?_
        refine j_iload_n (i := 2) (pc' := 46) dX12_quarrel_45 rfl rfl 2 rfl ?_
        refine j_iadd (pc' := 47) dX12_quarrel_46 rfl ?_
        refine j_iload_n (i := 3) (pc' := 48) dX12_quarrel_47 rfl rfl 3 rfl ?_
        obtain ⟨h10, e10, H⟩ := bs H
        refine j_iast (pc' := 49) dX12_quarrel_48 rfl ra3 e10 ?_
        refine j_aload_n (i := 0) (pc' := 50) dX12_quarrel_49 rfl rfl 0 rfl ?_
        obtain ⟨v11, e11, H⟩ := bs H
        refine j_getR (pc' := 53) dX12_quarrel_50 rfl fl_X12_19 e11 (fun r11 => ?_)
        refine j_bipush (pc' := 55) dX12_quarrel_53 rfl (by decide +kernel) ?_
        refine j_iload_n (i := 2) (pc' := 56) dX12_quarrel_55 rfl rfl 2 rfl ?_
        refine j_imul (pc' := 57) dX12_quarrel_56 rfl ?_
        refine j_iload_n (i := 1) (pc' := 58) dX12_quarrel_57 rfl rfl 1 rfl ?_
        refine j_iadd (pc' := 59) dX12_quarrel_58 rfl ?_
        refine j_iload_n (i := 3) (pc' := 60) dX12_quarrel_59 rfl rfl 3 rfl ?_
        obtain ⟨h12, e12, H⟩ := bs H
        refine j_iast (pc' := 61) dX12_quarrel_60 rfl ra3 e12 ?_
        refine j_aload_n (i := 0) (pc' := 62) dX12_quarrel_61 rfl rfl 0 rfl ?_
        obtain ⟨v13, e13, H⟩ := bs H
        refine j_getR (pc' := 65) dX12_quarrel_62 rfl fl_X12_22 e13 (fun r13 => ?_)
        refine j_bipush (pc' := 67) dX12_quarrel_65 rfl (by decide +kernel) ?_
        refine j_iload_n (i := 1) (pc' := 68) dX12_quarrel_67 rfl rfl 1 rfl ?_
        refine j_imul (pc' := 69) dX12_quarrel_68 rfl ?_
        refine j_iload_n (i := 2) (pc' := 70) dX12_quarrel_69 rfl rfl 2 rfl ?_
        refine j_iadd (pc' := 71) dX12_quarrel_70 rfl ?_
        refine j_iload (pc' := 73) dX12_quarrel_71 rfl 4 rfl ?_
        obtain ⟨u14, e14, H⟩ := bs H
        obtain ⟨h15, e15, H⟩ := bs H
        refine j_zast (pc' := 74) dX12_quarrel_73 rfl ra4 (cbo_R e14) e15 ?_
        refine j_aload_n (i := 0) (pc' := 75) dX12_quarrel_74 rfl rfl 0 rfl ?_
        obtain ⟨v16, e16, H⟩ := bs H
        refine j_getR (pc' := 78) dX12_quarrel_75 rfl fl_X12_22 e16 (fun r16 => ?_)
        refine j_bipush (pc' := 80) dX12_quarrel_78 rfl (by decide +kernel) ?_
        refine j_iload_n (i := 2) (pc' := 81) dX12_quarrel_80 rfl rfl 2 rfl ?_
        refine j_imul (pc' := 82) dX12_quarrel_81 rfl ?_
        refine j_iload_n (i := 1) (pc' := 83) dX12_quarrel_82 rfl rfl 1 rfl ?_
        refine j_iadd (pc' := 84) dX12_quarrel_83 rfl ?_
        refine j_iload (pc' := 86) dX12_quarrel_84 rfl 4 rfl ?_
        obtain ⟨u17, e17, H⟩ := bs H
        obtain ⟨h18, e18, H⟩ := bs H
        refine j_zast (pc' := 87) dX12_quarrel_86 rfl ra4 (cbo_R e17) e18 ?_
        refine j_iconst (pc' := 88) dX12_quarrel_87 rfl ?_
        obtain rfl := Option.some.inj H
        exact j_iret dX12_quarrel_88 ⟨by decide, by decide⟩ ⟨rfl, rfl, Or.inr rfl⟩
      · rw [if_neg c6] at H
        refine j_sub (lv' := [(0, vr a0)]) [0] rfl ?_
        exact tX12_quarrel_25   a0 p3.2  H
-- X12_number
noncomputable def fX12_number_108 (x2 : Int) (h : Hp) : Option (Int × Hp) :=
  some (x2, h)
theorem tX12_number_108 {L : Nat} {xs : Nat → Int32} {l : Launch} {res : Int × Hp} (x2 : Int) (h : Hp) (rx2 : R32 x2) (H : fX12_number_108 x2 h = some res) : J L xs l RX12 cX12_number 6 false 2 (QI res) 0 0 108 [(2, vi x2)] [] h := by
  unfold fX12_number_108 at H
  refine j_iload_n (i := 2) (pc' := 109) dX12_number_108 rfl rfl 0 rfl ?_
  obtain rfl := Option.some.inj H
  exact j_iret dX12_number_109 rx2 ⟨rfl, rfl⟩
noncomputable def fX12_number_85 : Nat → Nat → Nat → Int → Int → Hp → Option (Int × Hp)
  | 0, _, _, _, _, _ => none
  | n + 1, x0, x1, x2, x3, h => (cob h 11 x0).bind fun _ => (fX12_n x0 h).bind fun p2 => if p2.1 ≤ x3 then (fX12_number_108 x2 p2.2) else ((getR p2.2 11 x0 22).bind fun v4 => (ald p2.2 0 v4 x3).bind fun v5 => (ast p2.2 0 x1 x3 v5).bind fun h6 => (c32 (x3 + 1)).bind fun _ => fX12_number_85 n x0 x1 x2 (x3 + 1) h6)
theorem tX12_number_85 {L : Nat} {xs : Nat → Int32} {l : Launch} {res : Int × Hp} : ∀ (n : Nat) (x0 : Nat) (x1 : Nat) (x2 : Int) (x3 : Int) (h : Hp), R32 x2 → R32 x3 → fX12_number_85 n x0 x1 x2 x3 h = some res → J L xs l RX12 cX12_number 6 false 2 (QI res) 0 0 85 [(0, vr x0), (1, vr x1), (2, vi x2), (3, vi x3)] [] h := by
  intro n
  induction n with
  | zero => intro x0 x1 x2 x3 h rx2 rx3 H; cases H
  | succ n ih =>
    intro x0 x1 x2 x3 h rx2 rx3 H
    rw [fX12_number_85] at H
    refine j_iload_n (i := 3) (pc' := 86) dX12_number_85 rfl rfl 3 rfl ?_
    refine j_aload_n (i := 0) (pc' := 87) dX12_number_86 rfl rfl 0 rfl ?_
    obtain ⟨u1, e1, H⟩ := bs H
    obtain ⟨p2, e2, H⟩ := bs H
    refine j_cVi (y := yX12_n) (dY := 1) (vs := []) (st := [vi x3]) (q := x0) (pc' := 90) dX12_number_87 rfl ymX12_n yvX12_n ml_X12_90 (by decide) rfl (Nat.le_of_ble_eq_true rfl) (Nat.le_of_ble_eq_true rfl) e1 (tX12_n x0 h e2) (fun r2 z2 => ?_)
    refine j_icmp_ge (tgt := 108) (pc' := 93) dX12_number_90 (by decide) rfl rx3 r2 (fun c3 => ?_) (fun c3 => ?_)
    · rw [if_pos c3] at H
      refine j_sub (lv' := [(2, vi x2)]) [2] rfl ?_
      exact tX12_number_108   x2 p2.2 rx2 H
    · rw [if_neg c3] at H
      refine j_aload_n (i := 1) (pc' := 94) dX12_number_93 rfl rfl 1 rfl ?_
      refine j_iload_n (i := 3) (pc' := 95) dX12_number_94 rfl rfl 3 rfl ?_
      refine j_aload_n (i := 0) (pc' := 96) dX12_number_95 rfl rfl 0 rfl ?_
      obtain ⟨v4, e4, H⟩ := bs H
      refine j_getR (pc' := 99) dX12_number_96 rfl fl_X12_64 e4 (fun r4 => ?_)
      refine j_iload_n (i := 3) (pc' := 100) dX12_number_99 rfl rfl 3 rfl ?_
      obtain ⟨v5, e5, H⟩ := bs H
      refine j_iald (pc' := 101) dX12_number_100 rfl e5 (fun r5 => ?_)
      obtain ⟨h6, e6, H⟩ := bs H
      refine j_iast (pc' := 102) dX12_number_101 rfl r5 e6 ?_
      obtain ⟨u7, e7, H⟩ := bs H
      have r7 := c32_R e7
      refine j_iinc (k0 := 3) (lv' := [(0, vr x0), (1, vr x1), (2, vi x2), (3, vi (x3 + 1))]) (pc' := 105) dX12_number_102 rfl rfl (by decide) [1, 2, 3, 0] rfl ?_
      refine j_goto (tgt := 85) dX12_number_105 (by decide) ?_
      exact ih x0 x1 x2 (x3 + 1) h6 rx2 r7 H
noncomputable def fX12_number_83 (x0 : Nat) (x1 : Nat) (x2 : Int) (h : Hp) : Option (Int × Hp) :=
  fX12_number_85 FU x0 x1 x2 0 h
theorem tX12_number_83 {L : Nat} {xs : Nat → Int32} {l : Launch} {res : Int × Hp} (x0 : Nat) (x1 : Nat) (x2 : Int) (h : Hp) (rx2 : R32 x2) (H : fX12_number_83 x0 x1 x2 h = some res) : J L xs l RX12 cX12_number 6 false 2 (QI res) 0 0 83 [(0, vr x0), (1, vr x1), (2, vi x2)] [] h := by
  unfold fX12_number_83 at H
  refine j_iconst (pc' := 84) dX12_number_83 rfl ?_
  refine j_istore_n (i := 3) (lv' := [(0, vr x0), (1, vr x1), (2, vi x2), (3, vi 0)]) (pc' := 85) dX12_number_84 rfl rfl (by decide) [1, 2, 3, 0] rfl ?_
  exact tX12_number_85   FU x0 x1 x2 0 h rx2 ⟨by decide, by decide⟩ H
noncomputable def fX12_number_77 (k4 : Nat → Nat → Int → Int → Hp → Option (Int × Hp)) (x0 : Nat) (x1 : Nat) (x2 : Int) (x3 : Int) (h : Hp) : Option (Int × Hp) :=
  (c32 (x3 + 1)).bind fun _ => k4 x0 x1 x2 (x3 + 1) h
theorem tX12_number_77 {L : Nat} {xs : Nat → Int32} {l : Launch} {res : Int × Hp} (k4 : Nat → Nat → Int → Int → Hp → Option (Int × Hp)) (hk4 : ∀ (x0 : Nat) (x1 : Nat) (x2 : Int) (x3 : Int) (h : Hp), R32 x2 → R32 x3 → k4 x0 x1 x2 x3 h = some res → J L xs l RX12 cX12_number 6 false 2 (QI res) 0 0 4 [(0, vr x0), (1, vr x1), (2, vi x2), (3, vi x3)] [] h) (x0 : Nat) (x1 : Nat) (x2 : Int) (x3 : Int) (h : Hp) (rx2 : R32 x2) (rx3 : R32 x3) (H : fX12_number_77 k4 x0 x1 x2 x3 h = some res) : J L xs l RX12 cX12_number 6 false 2 (QI res) 0 0 77 [(0, vr x0), (1, vr x1), (2, vi x2), (3, vi x3)] [] h := by
  unfold fX12_number_77 at H
  obtain ⟨u1, e1, H⟩ := bs H
  have r1 := c32_R e1
  refine j_iinc (k0 := 3) (lv' := [(0, vr x0), (1, vr x1), (2, vi x2), (3, vi (x3 + 1))]) (pc' := 80) dX12_number_77 rfl rfl (by decide) [1, 2, 3, 0] rfl ?_
  refine j_goto (tgt := 4) dX12_number_80 (by decide) ?_
  exact hk4 x0 x1 x2 (x3 + 1) h rx2 r1 H
noncomputable def fX12_number_67 (k4 : Nat → Nat → Int → Int → Hp → Option (Int × Hp)) (x0 : Nat) (x1 : Nat) (x2 : Int) (x3 : Int) (x4 : Int) (s0 : Int) (s1 : Int) (s2 : Nat) (h : Hp) : Option (Int × Hp) :=
  (ast h 0 s2 s1 s0).bind fun h1 => if x4 = x3 then ((c32 (x2 + 1)).bind fun _ => fX12_number_77 k4 x0 x1 (x2 + 1) x3 h1) else (fX12_number_77 k4 x0 x1 x2 x3 h1)
theorem tX12_number_67 {L : Nat} {xs : Nat → Int32} {l : Launch} {res : Int × Hp} (k4 : Nat → Nat → Int → Int → Hp → Option (Int × Hp)) (hk4 : ∀ (x0 : Nat) (x1 : Nat) (x2 : Int) (x3 : Int) (h : Hp), R32 x2 → R32 x3 → k4 x0 x1 x2 x3 h = some res → J L xs l RX12 cX12_number 6 false 2 (QI res) 0 0 4 [(0, vr x0), (1, vr x1), (2, vi x2), (3, vi x3)] [] h) (x0 : Nat) (x1 : Nat) (x2 : Int) (x3 : Int) (x4 : Int) (s0 : Int) (s1 : Int) (s2 : Nat) (h : Hp) (rx2 : R32 x2) (rx3 : R32 x3) (rx4 : R32 x4) (rs0 : R32 s0) (rs1 : R32 s1) (H : fX12_number_67 k4 x0 x1 x2 x3 x4 s0 s1 s2 h = some res) : J L xs l RX12 cX12_number 6 false 2 (QI res) 0 0 67 [(0, vr x0), (1, vr x1), (2, vi x2), (3, vi x3), (4, vi x4)] [vi s0, vi s1, vr s2] h := by
  unfold fX12_number_67 at H
  obtain ⟨h1, e1, H⟩ := bs H
  refine j_iast (pc' := 68) dX12_number_67 rfl rs0 e1 ?_
  refine j_iload (pc' := 70) dX12_number_68 rfl 4 rfl ?_
  refine j_iload_n (i := 3) (pc' := 71) dX12_number_70 rfl rfl 3 rfl ?_
  refine j_icmp_ne (tgt := 77) (pc' := 74) dX12_number_71 (by decide) rfl rx4 rx3 (fun c2 => ?_) (fun c2 => ?_)
  · rw [if_neg c2] at H
    refine j_sub (lv' := [(0, vr x0), (1, vr x1), (2, vi x2), (3, vi x3)]) [0, 1, 2, 3] rfl ?_
    exact tX12_number_77 _ hk4 x0 x1 x2 x3 h1 rx2 rx3 H
  · rw [if_pos c2] at H
    obtain ⟨u3, e3, H⟩ := bs H
    have r3 := c32_R e3
    refine j_iinc (k0 := 2) (lv' := [(0, vr x0), (1, vr x1), (2, vi (x2 + 1)), (3, vi x3), (4, vi x4)]) (pc' := 77) dX12_number_74 rfl rfl (by decide) [1, 2, 0, 3, 4] rfl ?_
    refine j_sub (lv' := [(0, vr x0), (1, vr x1), (2, vi (x2 + 1)), (3, vi x3)]) [0, 1, 2, 3] rfl ?_
    exact tX12_number_77 _ hk4 x0 x1 (x2 + 1) x3 h1 r3 rx3 H
noncomputable def fX12_number_45 (k4 : Nat → Nat → Int → Int → Hp → Option (Int × Hp)) (x0 : Nat) (x1 : Nat) (x2 : Int) (x3 : Int) (x4 : Int) (h : Hp) : Option (Int × Hp) :=
  (getR h 11 x0 22).bind fun v1 => if x4 = x3 then (fX12_number_67 k4 x0 x1 x2 x3 x4 x2 x3 v1 h) else ((getR h 11 x0 22).bind fun v3 => (ald h 0 v3 x4).bind fun v4 => fX12_number_67 k4 x0 x1 x2 x3 x4 v4 x3 v1 h)
theorem tX12_number_45 {L : Nat} {xs : Nat → Int32} {l : Launch} {res : Int × Hp} (k4 : Nat → Nat → Int → Int → Hp → Option (Int × Hp)) (hk4 : ∀ (x0 : Nat) (x1 : Nat) (x2 : Int) (x3 : Int) (h : Hp), R32 x2 → R32 x3 → k4 x0 x1 x2 x3 h = some res → J L xs l RX12 cX12_number 6 false 2 (QI res) 0 0 4 [(0, vr x0), (1, vr x1), (2, vi x2), (3, vi x3)] [] h) (x0 : Nat) (x1 : Nat) (x2 : Int) (x3 : Int) (x4 : Int) (h : Hp) (rx2 : R32 x2) (rx3 : R32 x3) (rx4 : R32 x4) (H : fX12_number_45 k4 x0 x1 x2 x3 x4 h = some res) : J L xs l RX12 cX12_number 6 false 2 (QI res) 0 0 45 [(0, vr x0), (1, vr x1), (2, vi x2), (3, vi x3), (4, vi x4)] [] h := by
  unfold fX12_number_45 at H
  refine j_aload_n (i := 0) (pc' := 46) dX12_number_45 rfl rfl 0 rfl ?_
  obtain ⟨v1, e1, H⟩ := bs H
  refine j_getR (pc' := 49) dX12_number_46 rfl fl_X12_64 e1 (fun r1 => ?_)
  refine j_iload_n (i := 3) (pc' := 50) dX12_number_49 rfl rfl 3 rfl ?_
  refine j_iload (pc' := 52) dX12_number_50 rfl 4 rfl ?_
  refine j_iload_n (i := 3) (pc' := 53) dX12_number_52 rfl rfl 3 rfl ?_
  refine j_icmp_ne (tgt := 60) (pc' := 56) dX12_number_53 (by decide) rfl rx4 rx3 (fun c2 => ?_) (fun c2 => ?_)
  · rw [if_neg c2] at H
    refine j_aload_n (i := 0) (pc' := 61) dX12_number_60 rfl rfl 0 rfl ?_
    obtain ⟨v3, e3, H⟩ := bs H
    refine j_getR (pc' := 64) dX12_number_61 rfl fl_X12_64 e3 (fun r3 => ?_)
    refine j_iload (pc' := 66) dX12_number_64 rfl 4 rfl ?_
    obtain ⟨v4, e4, H⟩ := bs H
    refine j_iald (pc' := 67) dX12_number_66 rfl e4 (fun r4 => ?_)
    exact tX12_number_67 _ hk4 x0 x1 x2 x3 x4 v4 x3 v1 h rx2 rx3 rx4 r4 rx3 H
  · rw [if_pos c2] at H
    refine j_iload_n (i := 2) (pc' := 57) dX12_number_56 rfl rfl 2 rfl ?_
    refine j_goto (tgt := 67) dX12_number_57 (by decide) ?_
    exact tX12_number_67 _ hk4 x0 x1 x2 x3 x4 x2 x3 v1 h rx2 rx3 rx4 rx2 rx3 H
noncomputable def fX12_number_39 (k4 : Nat → Nat → Int → Int → Hp → Option (Int × Hp)) (k20 : Nat → Nat → Int → Int → Int → Int → Hp → Option (Int × Hp)) (x0 : Nat) (x1 : Nat) (x2 : Int) (x3 : Int) (x4 : Int) (x5 : Int) (h : Hp) : Option (Int × Hp) :=
  (c32 (x5 + (-1))).bind fun _ => k20 x0 x1 x2 x3 x4 (x5 + (-1)) h
theorem tX12_number_39 {L : Nat} {xs : Nat → Int32} {l : Launch} {res : Int × Hp} (k4 : Nat → Nat → Int → Int → Hp → Option (Int × Hp)) (k20 : Nat → Nat → Int → Int → Int → Int → Hp → Option (Int × Hp)) (hk4 : ∀ (x0 : Nat) (x1 : Nat) (x2 : Int) (x3 : Int) (h : Hp), R32 x2 → R32 x3 → k4 x0 x1 x2 x3 h = some res → J L xs l RX12 cX12_number 6 false 2 (QI res) 0 0 4 [(0, vr x0), (1, vr x1), (2, vi x2), (3, vi x3)] [] h) (hk20 : ∀ (x0 : Nat) (x1 : Nat) (x2 : Int) (x3 : Int) (x4 : Int) (x5 : Int) (h : Hp), R32 x2 → R32 x3 → R32 x4 → R32 x5 → k20 x0 x1 x2 x3 x4 x5 h = some res → J L xs l RX12 cX12_number 6 false 2 (QI res) 0 0 20 [(0, vr x0), (1, vr x1), (2, vi x2), (3, vi x3), (4, vi x4), (5, vi x5)] [] h) (x0 : Nat) (x1 : Nat) (x2 : Int) (x3 : Int) (x4 : Int) (x5 : Int) (h : Hp) (rx2 : R32 x2) (rx3 : R32 x3) (rx4 : R32 x4) (rx5 : R32 x5) (H : fX12_number_39 k4 k20 x0 x1 x2 x3 x4 x5 h = some res) : J L xs l RX12 cX12_number 6 false 2 (QI res) 0 0 39 [(0, vr x0), (1, vr x1), (2, vi x2), (3, vi x3), (4, vi x4), (5, vi x5)] [] h := by
  unfold fX12_number_39 at H
  obtain ⟨u1, e1, H⟩ := bs H
  have r1 := c32_R e1
  refine j_iinc (k0 := 5) (lv' := [(0, vr x0), (1, vr x1), (2, vi x2), (3, vi x3), (4, vi x4), (5, vi (x5 + (-1)))]) (pc' := 42) dX12_number_39 rfl rfl (by decide) [1, 2, 3, 4, 5, 0] rfl ?_
  refine j_goto (tgt := 20) dX12_number_42 (by decide) ?_
  exact hk20 x0 x1 x2 x3 x4 (x5 + (-1)) h rx2 rx3 rx4 r1 H
noncomputable def fX12_number_20 (k4 : Nat → Nat → Int → Int → Hp → Option (Int × Hp)) : Nat → Nat → Nat → Int → Int → Int → Int → Hp → Option (Int × Hp)
  | 0, _, _, _, _, _, _, _ => none
  | n + 1, x0, x1, x2, x3, x4, x5, h => if x5 < 0 then (fX12_number_45 k4 x0 x1 x2 x3 x4 h) else ((ald h 0 x1 x5).bind fun v2 => (ald h 0 x1 x3).bind fun v3 => if v2 = v3 then (fX12_number_39 k4 (fX12_number_20 k4 n) x0 x1 x2 x3 x5 x5 h) else (fX12_number_39 k4 (fX12_number_20 k4 n) x0 x1 x2 x3 x4 x5 h))
theorem tX12_number_20 {L : Nat} {xs : Nat → Int32} {l : Launch} {res : Int × Hp} (k4 : Nat → Nat → Int → Int → Hp → Option (Int × Hp)) (hk4 : ∀ (x0 : Nat) (x1 : Nat) (x2 : Int) (x3 : Int) (h : Hp), R32 x2 → R32 x3 → k4 x0 x1 x2 x3 h = some res → J L xs l RX12 cX12_number 6 false 2 (QI res) 0 0 4 [(0, vr x0), (1, vr x1), (2, vi x2), (3, vi x3)] [] h) : ∀ (n : Nat) (x0 : Nat) (x1 : Nat) (x2 : Int) (x3 : Int) (x4 : Int) (x5 : Int) (h : Hp), R32 x2 → R32 x3 → R32 x4 → R32 x5 → fX12_number_20 k4 n x0 x1 x2 x3 x4 x5 h = some res → J L xs l RX12 cX12_number 6 false 2 (QI res) 0 0 20 [(0, vr x0), (1, vr x1), (2, vi x2), (3, vi x3), (4, vi x4), (5, vi x5)] [] h := by
  intro n
  induction n with
  | zero => intro x0 x1 x2 x3 x4 x5 h rx2 rx3 rx4 rx5 H; cases H
  | succ n ih =>
    intro x0 x1 x2 x3 x4 x5 h rx2 rx3 rx4 rx5 H
    rw [fX12_number_20] at H
    refine j_iload (pc' := 22) dX12_number_20 rfl 5 rfl ?_
    refine j_if_lt (tgt := 45) (pc' := 25) dX12_number_22 (by decide) rfl rx5 (fun c1 => ?_) (fun c1 => ?_)
    · rw [if_pos c1] at H
      refine j_sub (lv' := [(0, vr x0), (1, vr x1), (2, vi x2), (3, vi x3), (4, vi x4)]) [0, 1, 2, 3, 4] rfl ?_
      exact tX12_number_45 _ hk4 x0 x1 x2 x3 x4 h rx2 rx3 rx4 H
    · rw [if_neg c1] at H
      refine j_aload_n (i := 1) (pc' := 26) dX12_number_25 rfl rfl 1 rfl ?_
      refine j_iload (pc' := 28) dX12_number_26 rfl 5 rfl ?_
      obtain ⟨v2, e2, H⟩ := bs H
      refine j_iald (pc' := 29) dX12_number_28 rfl e2 (fun r2 => ?_)
      refine j_aload_n (i := 1) (pc' := 30) dX12_number_29 rfl rfl 1 rfl ?_
      refine j_iload_n (i := 3) (pc' := 31) dX12_number_30 rfl rfl 3 rfl ?_
      obtain ⟨v3, e3, H⟩ := bs H
      refine j_iald (pc' := 32) dX12_number_31 rfl e3 (fun r3 => ?_)
      refine j_icmp_ne (tgt := 39) (pc' := 35) dX12_number_32 (by decide) rfl r2 r3 (fun c4 => ?_) (fun c4 => ?_)
      · rw [if_neg c4] at H
        exact tX12_number_39 _ _ hk4 ih x0 x1 x2 x3 x4 x5 h rx2 rx3 rx4 rx5 H
      · rw [if_pos c4] at H
        refine j_iload (pc' := 37) dX12_number_35 rfl 5 rfl ?_
        refine j_istore (lv' := [(0, vr x0), (1, vr x1), (2, vi x2), (3, vi x3), (4, vi x5), (5, vi x5)]) (pc' := 39) dX12_number_37 rfl (by decide) [1, 2, 3, 4, 0, 5] rfl ?_
        exact tX12_number_39 _ _ hk4 ih x0 x1 x2 x3 x5 x5 h rx2 rx3 rx5 rx5 H
noncomputable def fX12_number_4 : Nat → Nat → Nat → Int → Int → Hp → Option (Int × Hp)
  | 0, _, _, _, _, _ => none
  | n + 1, x0, x1, x2, x3, h => (cob h 11 x0).bind fun _ => (fX12_n x0 h).bind fun p2 => if p2.1 ≤ x3 then (fX12_number_83 x0 x1 x2 p2.2) else ((c32 (x3 - 1)).bind fun _ => fX12_number_20 (fX12_number_4 n) FU x0 x1 x2 x3 x3 (x3 - 1) p2.2)
theorem tX12_number_4 {L : Nat} {xs : Nat → Int32} {l : Launch} {res : Int × Hp} : ∀ (n : Nat) (x0 : Nat) (x1 : Nat) (x2 : Int) (x3 : Int) (h : Hp), R32 x2 → R32 x3 → fX12_number_4 n x0 x1 x2 x3 h = some res → J L xs l RX12 cX12_number 6 false 2 (QI res) 0 0 4 [(0, vr x0), (1, vr x1), (2, vi x2), (3, vi x3)] [] h := by
  intro n
  induction n with
  | zero => intro x0 x1 x2 x3 h rx2 rx3 H; cases H
  | succ n ih =>
    intro x0 x1 x2 x3 h rx2 rx3 H
    rw [fX12_number_4] at H
    refine j_iload_n (i := 3) (pc' := 5) dX12_number_4 rfl rfl 3 rfl ?_
    refine j_aload_n (i := 0) (pc' := 6) dX12_number_5 rfl rfl 0 rfl ?_
    obtain ⟨u1, e1, H⟩ := bs H
    obtain ⟨p2, e2, H⟩ := bs H
    refine j_cVi (y := yX12_n) (dY := 1) (vs := []) (st := [vi x3]) (q := x0) (pc' := 9) dX12_number_6 rfl ymX12_n yvX12_n ml_X12_90 (by decide) rfl (Nat.le_of_ble_eq_true rfl) (Nat.le_of_ble_eq_true rfl) e1 (tX12_n x0 h e2) (fun r2 z2 => ?_)
    refine j_icmp_ge (tgt := 83) (pc' := 12) dX12_number_9 (by decide) rfl rx3 r2 (fun c3 => ?_) (fun c3 => ?_)
    · rw [if_pos c3] at H
      refine j_sub (lv' := [(0, vr x0), (1, vr x1), (2, vi x2)]) [0, 1, 2] rfl ?_
      exact tX12_number_83   x0 x1 x2 p2.2 rx2 H
    · rw [if_neg c3] at H
      refine j_iload_n (i := 3) (pc' := 13) dX12_number_12 rfl rfl 3 rfl ?_
      refine j_istore (lv' := [(0, vr x0), (1, vr x1), (2, vi x2), (3, vi x3), (4, vi x3)]) (pc' := 15) dX12_number_13 rfl (by decide) [1, 2, 3, 4, 0] rfl ?_
      refine j_iload_n (i := 3) (pc' := 16) dX12_number_15 rfl rfl 3 rfl ?_
      refine j_iconst (pc' := 17) dX12_number_16 rfl ?_
      refine j_isub (pc' := 18) dX12_number_17 rfl ?_
      obtain ⟨u4, e4, H⟩ := bs H
      have r4 := c32_R e4
      refine j_istore (lv' := [(0, vr x0), (1, vr x1), (2, vi x2), (3, vi x3), (4, vi x3), (5, vi (x3 - 1))]) (pc' := 20) dX12_number_18 rfl (by decide) [1, 2, 3, 4, 5, 0] rfl ?_
      exact tX12_number_20 _ ih FU x0 x1 x2 x3 x3 (x3 - 1) p2.2 rx2 rx3 rx3 r4 H
noncomputable def fX12_number (a0 : Nat) (a1 : Nat) (h : Hp) : Option (Int × Hp) :=
  fX12_number_4 FU a0 a1 0 0 h
theorem tX12_number {L : Nat} {xs : Nat → Int32} {l : Launch} {res : Int × Hp} (a0 : Nat) (a1 : Nat) (h : Hp)  (H : fX12_number a0 a1 h = some res) : J L xs l RX12 cX12_number 6 false 2 (QI res) 0 0 0 (alv 0 [vr a0, vr a1]) [] h := by
  unfold fX12_number at H
  show J L xs l RX12 cX12_number 6 false 2 (QI res) 0 0 0 [(0, vr a0), (1, vr a1)] [] h
  refine j_iconst (pc' := 1) dX12_number_0 rfl ?_
  refine j_istore_n (i := 2) (lv' := [(0, vr a0), (1, vr a1), (2, vi 0)]) (pc' := 2) dX12_number_1 rfl rfl (by decide) [1, 2, 0] rfl ?_
  refine j_iconst (pc' := 3) dX12_number_2 rfl ?_
  refine j_istore_n (i := 3) (lv' := [(0, vr a0), (1, vr a1), (2, vi 0), (3, vi 0)]) (pc' := 4) dX12_number_3 rfl rfl (by decide) [1, 2, 3, 0] rfl ?_
  exact tX12_number_4   FU a0 a1 0 0 h ⟨by decide, by decide⟩ ⟨by decide, by decide⟩ H
-- X12_heaps
noncomputable def fX12_heaps_28 (x2 : Int) (h : Hp) : Option (Int × Hp) :=
  some (x2, h)
theorem tX12_heaps_28 {L : Nat} {xs : Nat → Int32} {l : Launch} {res : Int × Hp} (x2 : Int) (h : Hp) (rx2 : R32 x2) (H : fX12_heaps_28 x2 h = some res) : J L xs l RX12 cX12_heaps 4 false 2 (QI res) 0 0 28 [(2, vi x2)] [] h := by
  unfold fX12_heaps_28 at H
  refine j_iload_n (i := 2) (pc' := 29) dX12_heaps_28 rfl rfl 0 rfl ?_
  obtain rfl := Option.some.inj H
  exact j_iret dX12_heaps_29 rx2 ⟨rfl, rfl⟩
noncomputable def fX12_heaps_4 : Nat → Nat → Nat → Int → Int → Hp → Option (Int × Hp)
  | 0, _, _, _, _, _ => none
  | n + 1, x0, x1, x2, x3, h => (cob h 11 x0).bind fun _ => (fX12_n x0 h).bind fun p2 => if p2.1 ≤ x3 then (fX12_heaps_28 x2 p2.2) else ((ald p2.2 0 x1 x3).bind fun v4 => (c32 (v4 + 1)).bind fun _ => (c32 (x3 + 1)).bind fun _ => fX12_heaps_4 n x0 x1 (max x2 (v4 + 1)) (x3 + 1) p2.2)
theorem tX12_heaps_4 {L : Nat} {xs : Nat → Int32} {l : Launch} {res : Int × Hp} : ∀ (n : Nat) (x0 : Nat) (x1 : Nat) (x2 : Int) (x3 : Int) (h : Hp), R32 x2 → R32 x3 → fX12_heaps_4 n x0 x1 x2 x3 h = some res → J L xs l RX12 cX12_heaps 4 false 2 (QI res) 0 0 4 [(0, vr x0), (1, vr x1), (2, vi x2), (3, vi x3)] [] h := by
  intro n
  induction n with
  | zero => intro x0 x1 x2 x3 h rx2 rx3 H; cases H
  | succ n ih =>
    intro x0 x1 x2 x3 h rx2 rx3 H
    rw [fX12_heaps_4] at H
    refine j_iload_n (i := 3) (pc' := 5) dX12_heaps_4 rfl rfl 3 rfl ?_
    refine j_aload_n (i := 0) (pc' := 6) dX12_heaps_5 rfl rfl 0 rfl ?_
    obtain ⟨u1, e1, H⟩ := bs H
    obtain ⟨p2, e2, H⟩ := bs H
    refine j_cVi (y := yX12_n) (dY := 1) (vs := []) (st := [vi x3]) (q := x0) (pc' := 9) dX12_heaps_6 rfl ymX12_n yvX12_n ml_X12_90 (by decide) rfl (Nat.le_of_ble_eq_true rfl) (Nat.le_of_ble_eq_true rfl) e1 (tX12_n x0 h e2) (fun r2 z2 => ?_)
    refine j_icmp_ge (tgt := 28) (pc' := 12) dX12_heaps_9 (by decide) rfl rx3 r2 (fun c3 => ?_) (fun c3 => ?_)
    · rw [if_pos c3] at H
      refine j_sub (lv' := [(2, vi x2)]) [2] rfl ?_
      exact tX12_heaps_28   x2 p2.2 rx2 H
    · rw [if_neg c3] at H
      refine j_iload_n (i := 2) (pc' := 13) dX12_heaps_12 rfl rfl 2 rfl ?_
      refine j_aload_n (i := 1) (pc' := 14) dX12_heaps_13 rfl rfl 1 rfl ?_
      refine j_iload_n (i := 3) (pc' := 15) dX12_heaps_14 rfl rfl 3 rfl ?_
      obtain ⟨v4, e4, H⟩ := bs H
      refine j_iald (pc' := 16) dX12_heaps_15 rfl e4 (fun r4 => ?_)
      refine j_iconst (pc' := 17) dX12_heaps_16 rfl ?_
      refine j_iadd (pc' := 18) dX12_heaps_17 rfl ?_
      obtain ⟨u5, e5, H⟩ := bs H
      have r5 := c32_R e5
      refine j_mmax (pc' := 21) dX12_heaps_18 rfl ml_X12_125 (by decide) (Nat.le_of_ble_eq_true rfl) rx2 r5 ?_
      refine j_istore_n (i := 2) (lv' := [(0, vr x0), (1, vr x1), (2, vi (max x2 (v4 + 1))), (3, vi x3)]) (pc' := 22) dX12_heaps_21 rfl rfl (by decide) [1, 2, 0, 3] rfl ?_
      obtain ⟨u6, e6, H⟩ := bs H
      have r6 := c32_R e6
      refine j_iinc (k0 := 3) (lv' := [(0, vr x0), (1, vr x1), (2, vi (max x2 (v4 + 1))), (3, vi (x3 + 1))]) (pc' := 25) dX12_heaps_22 rfl rfl (by decide) [1, 2, 3, 0] rfl ?_
      refine j_goto (tgt := 4) dX12_heaps_25 (by decide) ?_
      exact ih x0 x1 (max x2 (v4 + 1)) (x3 + 1) p2.2 (R32_max rx2 r5) r6 H
noncomputable def fX12_heaps (a0 : Nat) (a1 : Nat) (h : Hp) : Option (Int × Hp) :=
  fX12_heaps_4 FU a0 a1 0 0 h
theorem tX12_heaps {L : Nat} {xs : Nat → Int32} {l : Launch} {res : Int × Hp} (a0 : Nat) (a1 : Nat) (h : Hp)  (H : fX12_heaps a0 a1 h = some res) : J L xs l RX12 cX12_heaps 4 false 2 (QI res) 0 0 0 (alv 0 [vr a0, vr a1]) [] h := by
  unfold fX12_heaps at H
  show J L xs l RX12 cX12_heaps 4 false 2 (QI res) 0 0 0 [(0, vr a0), (1, vr a1)] [] h
  refine j_iconst (pc' := 1) dX12_heaps_0 rfl ?_
  refine j_istore_n (i := 2) (lv' := [(0, vr a0), (1, vr a1), (2, vi 0)]) (pc' := 2) dX12_heaps_1 rfl rfl (by decide) [1, 2, 0] rfl ?_
  refine j_iconst (pc' := 3) dX12_heaps_2 rfl ?_
  refine j_istore_n (i := 3) (lv' := [(0, vr a0), (1, vr a1), (2, vi 0), (3, vi 0)]) (pc' := 4) dX12_heaps_3 rfl rfl (by decide) [1, 2, 3, 0] rfl ?_
  exact tX12_heaps_4   FU a0 a1 0 0 h ⟨by decide, by decide⟩ ⟨by decide, by decide⟩ H
-- X12_next
noncomputable def fX12_next_93  (h : Hp) : Option (Int × Hp) :=
  some (0, h)
theorem tX12_next_93 {L : Nat} {xs : Nat → Int32} {l : Launch} {res : Int × Hp}  (h : Hp)  (H : fX12_next_93  h = some res) : J L xs l RX12 cX12_next 4 false 2 (QB res) 0 0 93 [] [] h := by
  unfold fX12_next_93 at H
  refine j_iconst (pc' := 94) dX12_next_93 rfl ?_
  obtain rfl := Option.some.inj H
  exact j_iret dX12_next_94 ⟨by decide, by decide⟩ ⟨rfl, rfl, Or.inl rfl⟩
noncomputable def fX12_next_85  (h : Hp) : Option (Int × Hp) :=
  some (1, h)
theorem tX12_next_85 {L : Nat} {xs : Nat → Int32} {l : Launch} {res : Int × Hp}  (h : Hp)  (H : fX12_next_85  h = some res) : J L xs l RX12 cX12_next 4 false 2 (QB res) 0 0 85 [] [] h := by
  unfold fX12_next_85 at H
  refine j_iconst (pc' := 86) dX12_next_85 rfl ?_
  obtain rfl := Option.some.inj H
  exact j_iret dX12_next_86 ⟨by decide, by decide⟩ ⟨rfl, rfl, Or.inr rfl⟩
noncomputable def fX12_next_64 : Nat → Nat → Int → Hp → Option (Int × Hp)
  | 0, _, _, _ => none
  | n + 1, x0, x3, h => (cob h 11 x0).bind fun _ => (fX12_n x0 h).bind fun p2 => if p2.1 ≤ x3 then (fX12_next_85 p2.2) else ((getR p2.2 11 x0 20).bind fun v4 => (ast p2.2 0 v4 x3 0).bind fun h5 => (c32 (x3 + 1)).bind fun _ => fX12_next_64 n x0 (x3 + 1) h5)
theorem tX12_next_64 {L : Nat} {xs : Nat → Int32} {l : Launch} {res : Int × Hp} : ∀ (n : Nat) (x0 : Nat) (x3 : Int) (h : Hp), R32 x3 → fX12_next_64 n x0 x3 h = some res → J L xs l RX12 cX12_next 4 false 2 (QB res) 0 0 64 [(0, vr x0), (3, vi x3)] [] h := by
  intro n
  induction n with
  | zero => intro x0 x3 h rx3 H; cases H
  | succ n ih =>
    intro x0 x3 h rx3 H
    rw [fX12_next_64] at H
    refine j_iload_n (i := 3) (pc' := 65) dX12_next_64 rfl rfl 1 rfl ?_
    refine j_aload_n (i := 0) (pc' := 66) dX12_next_65 rfl rfl 0 rfl ?_
    obtain ⟨u1, e1, H⟩ := bs H
    obtain ⟨p2, e2, H⟩ := bs H
    refine j_cVi (y := yX12_n) (dY := 1) (vs := []) (st := [vi x3]) (q := x0) (pc' := 69) dX12_next_66 rfl ymX12_n yvX12_n ml_X12_90 (by decide) rfl (Nat.le_of_ble_eq_true rfl) (Nat.le_of_ble_eq_true rfl) e1 (tX12_n x0 h e2) (fun r2 z2 => ?_)
    refine j_icmp_ge (tgt := 85) (pc' := 72) dX12_next_69 (by decide) rfl rx3 r2 (fun c3 => ?_) (fun c3 => ?_)
    · rw [if_pos c3] at H
      refine j_sub (lv' := []) [] rfl ?_
      exact tX12_next_85   p2.2  H
    · rw [if_neg c3] at H
      refine j_aload_n (i := 0) (pc' := 73) dX12_next_72 rfl rfl 0 rfl ?_
      obtain ⟨v4, e4, H⟩ := bs H
      refine j_getR (pc' := 76) dX12_next_73 rfl fl_X12_58 e4 (fun r4 => ?_)
      refine j_iload_n (i := 3) (pc' := 77) dX12_next_76 rfl rfl 1 rfl ?_
      refine j_iconst (pc' := 78) dX12_next_77 rfl ?_
      obtain ⟨h5, e5, H⟩ := bs H
      refine j_iast (pc' := 79) dX12_next_78 rfl ⟨by decide, by decide⟩ e5 ?_
      obtain ⟨u6, e6, H⟩ := bs H
      have r6 := c32_R e6
      refine j_iinc (k0 := 1) (lv' := [(0, vr x0), (3, vi (x3 + 1))]) (pc' := 82) dX12_next_79 rfl rfl (by decide) [1, 0] rfl ?_
      refine j_goto (tgt := 64) dX12_next_82 (by decide) ?_
      exact ih x0 (x3 + 1) h5 r6 H
noncomputable def fX12_next_50 (x0 : Nat) (x1 : Int) (h : Hp) : Option (Int × Hp) :=
  (getR h 11 x0 20).bind fun v1 => (ald h 0 v1 x1).bind fun v2 => (c32 (v2 + 1)).bind fun _ => (ast h 0 v1 x1 (v2 + 1)).bind fun h4 => (c32 (x1 + 1)).bind fun _ => fX12_next_64 FU x0 (x1 + 1) h4
theorem tX12_next_50 {L : Nat} {xs : Nat → Int32} {l : Launch} {res : Int × Hp} (x0 : Nat) (x1 : Int) (h : Hp) (rx1 : R32 x1) (H : fX12_next_50 x0 x1 h = some res) : J L xs l RX12 cX12_next 4 false 2 (QB res) 0 0 50 [(0, vr x0), (1, vi x1)] [] h := by
  unfold fX12_next_50 at H
  refine j_aload_n (i := 0) (pc' := 51) dX12_next_50 rfl rfl 0 rfl ?_
  obtain ⟨v1, e1, H⟩ := bs H
  refine j_getR (pc' := 54) dX12_next_51 rfl fl_X12_58 e1 (fun r1 => ?_)
  refine j_iload_n (i := 1) (pc' := 55) dX12_next_54 rfl rfl 1 rfl ?_
  refine j_dup2 (pc' := 56) dX12_next_55 rfl rfl rfl ?_
  obtain ⟨v2, e2, H⟩ := bs H
  refine j_iald (pc' := 57) dX12_next_56 rfl e2 (fun r2 => ?_)
  refine j_iconst (pc' := 58) dX12_next_57 rfl ?_
  refine j_iadd (pc' := 59) dX12_next_58 rfl ?_
  obtain ⟨u3, e3, H⟩ := bs H
  have r3 := c32_R e3
  obtain ⟨h4, e4, H⟩ := bs H
  refine j_iast (pc' := 60) dX12_next_59 rfl r3 e4 ?_
  refine j_iload_n (i := 1) (pc' := 61) dX12_next_60 rfl rfl 1 rfl ?_
  refine j_iconst (pc' := 62) dX12_next_61 rfl ?_
  refine j_iadd (pc' := 63) dX12_next_62 rfl ?_
  obtain ⟨u5, e5, H⟩ := bs H
  have r5 := c32_R e5
  refine j_istore_n (i := 3) (lv' := [(0, vr x0), (1, vi x1), (3, vi (x1 + 1))]) (pc' := 64) dX12_next_63 rfl rfl (by decide) [1, 2, 0] rfl ?_
  refine j_sub (lv' := [(0, vr x0), (3, vi (x1 + 1))]) [0, 2] rfl ?_
  exact tX12_next_64   FU x0 (x1 + 1) h4 r5 H
noncomputable def fX12_next_37 (k7 : Nat → Int → Hp → Option (Int × Hp)) (x0 : Nat) (x1 : Int) (x2 : Int) (h : Hp) : Option (Int × Hp) :=
  (getR h 11 x0 20).bind fun v1 => (ald h 0 v1 x1).bind fun v2 => if v2 ≤ x2 then (fX12_next_50 x0 x1 h) else ((c32 (x1 + (-1))).bind fun _ => k7 x0 (x1 + (-1)) h)
theorem tX12_next_37 {L : Nat} {xs : Nat → Int32} {l : Launch} {res : Int × Hp} (k7 : Nat → Int → Hp → Option (Int × Hp)) (hk7 : ∀ (x0 : Nat) (x1 : Int) (h : Hp), R32 x1 → k7 x0 x1 h = some res → J L xs l RX12 cX12_next 4 false 2 (QB res) 0 0 7 [(0, vr x0), (1, vi x1)] [] h) (x0 : Nat) (x1 : Int) (x2 : Int) (h : Hp) (rx1 : R32 x1) (rx2 : R32 x2) (H : fX12_next_37 k7 x0 x1 x2 h = some res) : J L xs l RX12 cX12_next 4 false 2 (QB res) 0 0 37 [(0, vr x0), (1, vi x1), (2, vi x2)] [] h := by
  unfold fX12_next_37 at H
  refine j_aload_n (i := 0) (pc' := 38) dX12_next_37 rfl rfl 0 rfl ?_
  obtain ⟨v1, e1, H⟩ := bs H
  refine j_getR (pc' := 41) dX12_next_38 rfl fl_X12_58 e1 (fun r1 => ?_)
  refine j_iload_n (i := 1) (pc' := 42) dX12_next_41 rfl rfl 1 rfl ?_
  obtain ⟨v2, e2, H⟩ := bs H
  refine j_iald (pc' := 43) dX12_next_42 rfl e2 (fun r2 => ?_)
  refine j_iload_n (i := 2) (pc' := 44) dX12_next_43 rfl rfl 2 rfl ?_
  refine j_icmp_le (tgt := 50) (pc' := 47) dX12_next_44 (by decide) rfl r2 rx2 (fun c3 => ?_) (fun c3 => ?_)
  · rw [if_pos c3] at H
    refine j_sub (lv' := [(0, vr x0), (1, vi x1)]) [0, 1] rfl ?_
    exact tX12_next_50   x0 x1 h rx1 H
  · rw [if_neg c3] at H
    refine j_goto (tgt := 87) dX12_next_47 (by decide) ?_
    obtain ⟨u4, e4, H⟩ := bs H
    have r4 := c32_R e4
    refine j_iinc (k0 := 1) (lv' := [(0, vr x0), (1, vi (x1 + (-1))), (2, vi x2)]) (pc' := 90) dX12_next_87 rfl rfl (by decide) [1, 0, 2] rfl ?_
    refine j_goto (tgt := 7) dX12_next_90 (by decide) ?_
    refine j_sub (lv' := [(0, vr x0), (1, vi (x1 + (-1)))]) [0, 1] rfl ?_
    exact hk7 x0 (x1 + (-1)) h r4 H
noncomputable def fX12_next_15 (k7 : Nat → Int → Hp → Option (Int × Hp)) : Nat → Nat → Int → Int → Int → Hp → Option (Int × Hp)
  | 0, _, _, _, _, _ => none
  | n + 1, x0, x1, x2, x3, h => if x1 ≤ x3 then (fX12_next_37 k7 x0 x1 x2 h) else ((getR h 11 x0 20).bind fun v2 => (ald h 0 v2 x3).bind fun v3 => (c32 (x3 + 1)).bind fun _ => fX12_next_15 k7 n x0 x1 (max x2 v3) (x3 + 1) h)
theorem tX12_next_15 {L : Nat} {xs : Nat → Int32} {l : Launch} {res : Int × Hp} (k7 : Nat → Int → Hp → Option (Int × Hp)) (hk7 : ∀ (x0 : Nat) (x1 : Int) (h : Hp), R32 x1 → k7 x0 x1 h = some res → J L xs l RX12 cX12_next 4 false 2 (QB res) 0 0 7 [(0, vr x0), (1, vi x1)] [] h) : ∀ (n : Nat) (x0 : Nat) (x1 : Int) (x2 : Int) (x3 : Int) (h : Hp), R32 x1 → R32 x2 → R32 x3 → fX12_next_15 k7 n x0 x1 x2 x3 h = some res → J L xs l RX12 cX12_next 4 false 2 (QB res) 0 0 15 [(0, vr x0), (1, vi x1), (2, vi x2), (3, vi x3)] [] h := by
  intro n
  induction n with
  | zero => intro x0 x1 x2 x3 h rx1 rx2 rx3 H; cases H
  | succ n ih =>
    intro x0 x1 x2 x3 h rx1 rx2 rx3 H
    rw [fX12_next_15] at H
    refine j_iload_n (i := 3) (pc' := 16) dX12_next_15 rfl rfl 3 rfl ?_
    refine j_iload_n (i := 1) (pc' := 17) dX12_next_16 rfl rfl 1 rfl ?_
    refine j_icmp_ge (tgt := 37) (pc' := 20) dX12_next_17 (by decide) rfl rx3 rx1 (fun c1 => ?_) (fun c1 => ?_)
    · rw [if_pos c1] at H
      refine j_sub (lv' := [(0, vr x0), (1, vi x1), (2, vi x2)]) [0, 1, 2] rfl ?_
      exact tX12_next_37 _ hk7 x0 x1 x2 h rx1 rx2 H
    · rw [if_neg c1] at H
      refine j_iload_n (i := 2) (pc' := 21) dX12_next_20 rfl rfl 2 rfl ?_
      refine j_aload_n (i := 0) (pc' := 22) dX12_next_21 rfl rfl 0 rfl ?_
      obtain ⟨v2, e2, H⟩ := bs H
      refine j_getR (pc' := 25) dX12_next_22 rfl fl_X12_58 e2 (fun r2 => ?_)
      refine j_iload_n (i := 3) (pc' := 26) dX12_next_25 rfl rfl 3 rfl ?_
      obtain ⟨v3, e3, H⟩ := bs H
      refine j_iald (pc' := 27) dX12_next_26 rfl e3 (fun r3 => ?_)
      refine j_mmax (pc' := 30) dX12_next_27 rfl ml_X12_125 (by decide) (Nat.le_of_ble_eq_true rfl) rx2 r3 ?_
      refine j_istore_n (i := 2) (lv' := [(0, vr x0), (1, vi x1), (2, vi (max x2 v3)), (3, vi x3)]) (pc' := 31) dX12_next_30 rfl rfl (by decide) [1, 2, 0, 3] rfl ?_
      obtain ⟨u4, e4, H⟩ := bs H
      have r4 := c32_R e4
      refine j_iinc (k0 := 3) (lv' := [(0, vr x0), (1, vi x1), (2, vi (max x2 v3)), (3, vi (x3 + 1))]) (pc' := 34) dX12_next_31 rfl rfl (by decide) [1, 2, 3, 0] rfl ?_
      refine j_goto (tgt := 15) dX12_next_34 (by decide) ?_
      exact ih x0 x1 (max x2 v3) (x3 + 1) h rx1 (R32_max rx2 r3) r4 H
noncomputable def fX12_next_7 : Nat → Nat → Int → Hp → Option (Int × Hp)
  | 0, _, _, _ => none
  | n + 1, x0, x1, h => if x1 ≤ 0 then (fX12_next_93 h) else (fX12_next_15 (fX12_next_7 n) FU x0 x1 0 0 h)
theorem tX12_next_7 {L : Nat} {xs : Nat → Int32} {l : Launch} {res : Int × Hp} : ∀ (n : Nat) (x0 : Nat) (x1 : Int) (h : Hp), R32 x1 → fX12_next_7 n x0 x1 h = some res → J L xs l RX12 cX12_next 4 false 2 (QB res) 0 0 7 [(0, vr x0), (1, vi x1)] [] h := by
  intro n
  induction n with
  | zero => intro x0 x1 h rx1 H; cases H
  | succ n ih =>
    intro x0 x1 h rx1 H
    rw [fX12_next_7] at H
    refine j_iload_n (i := 1) (pc' := 8) dX12_next_7 rfl rfl 1 rfl ?_
    refine j_if_le (tgt := 93) (pc' := 11) dX12_next_8 (by decide) rfl rx1 (fun c1 => ?_) (fun c1 => ?_)
    · rw [if_pos c1] at H
      refine j_sub (lv' := []) [] rfl ?_
      exact tX12_next_93   h  H
    · rw [if_neg c1] at H
      refine j_iconst (pc' := 12) dX12_next_11 rfl ?_
      refine j_istore_n (i := 2) (lv' := [(0, vr x0), (1, vi x1), (2, vi 0)]) (pc' := 13) dX12_next_12 rfl rfl (by decide) [1, 2, 0] rfl ?_
      refine j_iconst (pc' := 14) dX12_next_13 rfl ?_
      refine j_istore_n (i := 3) (lv' := [(0, vr x0), (1, vi x1), (2, vi 0), (3, vi 0)]) (pc' := 15) dX12_next_14 rfl rfl (by decide) [1, 2, 3, 0] rfl ?_
      exact tX12_next_15 _ ih FU x0 x1 0 0 h rx1 ⟨by decide, by decide⟩ ⟨by decide, by decide⟩ H
noncomputable def fX12_next (a0 : Nat) (h : Hp) : Option (Int × Hp) :=
  (cob h 11 a0).bind fun _ => (fX12_n a0 h).bind fun p2 => (c32 (p2.1 - 1)).bind fun _ => fX12_next_7 FU a0 (p2.1 - 1) p2.2
theorem tX12_next {L : Nat} {xs : Nat → Int32} {l : Launch} {res : Int × Hp} (a0 : Nat) (h : Hp)  (H : fX12_next a0 h = some res) : J L xs l RX12 cX12_next 4 false 2 (QB res) 0 0 0 (alv 0 [vr a0]) [] h := by
  unfold fX12_next at H
  show J L xs l RX12 cX12_next 4 false 2 (QB res) 0 0 0 [(0, vr a0)] [] h
  refine j_aload_n (i := 0) (pc' := 1) dX12_next_0 rfl rfl 0 rfl ?_
  obtain ⟨u1, e1, H⟩ := bs H
  obtain ⟨p2, e2, H⟩ := bs H
  refine j_cVi (y := yX12_n) (dY := 1) (vs := []) (st := []) (q := a0) (pc' := 4) dX12_next_1 rfl ymX12_n yvX12_n ml_X12_90 (by decide) rfl (Nat.le_of_ble_eq_true rfl) (Nat.le_of_ble_eq_true rfl) e1 (tX12_n a0 h e2) (fun r2 z2 => ?_)
  refine j_iconst (pc' := 5) dX12_next_4 rfl ?_
  refine j_isub (pc' := 6) dX12_next_5 rfl ?_
  obtain ⟨u3, e3, H⟩ := bs H
  have r3 := c32_R e3
  refine j_istore_n (i := 1) (lv' := [(0, vr a0), (1, vi (p2.1 - 1))]) (pc' := 7) dX12_next_6 rfl rfl (by decide) [1, 0] rfl ?_
  exact tX12_next_7   FU a0 (p2.1 - 1) p2.2 r3 H
-- X12_isAhead
noncomputable def fX12_isAhead_40  (h : Hp) : Option (Int × Hp) :=
  some (0, h)
theorem tX12_isAhead_40 {L : Nat} {xs : Nat → Int32} {l : Launch} {res : Int × Hp}  (h : Hp)  (H : fX12_isAhead_40  h = some res) : J L xs l RX12 cX12_isAhead 4 false 2 (QB res) 0 0 40 [] [] h := by
  unfold fX12_isAhead_40 at H
  refine j_iconst (pc' := 41) dX12_isAhead_40 rfl ?_
  obtain rfl := Option.some.inj H
  exact j_iret dX12_isAhead_41 ⟨by decide, by decide⟩ ⟨rfl, rfl, Or.inl rfl⟩
noncomputable def fX12_isAhead_33 (s0 : Int) (h : Hp) : Option (Int × Hp) :=
  (cbo s0).bind fun _ => some (s0, h)
theorem tX12_isAhead_33 {L : Nat} {xs : Nat → Int32} {l : Launch} {res : Int × Hp} (s0 : Int) (h : Hp) (rs0 : R32 s0) (H : fX12_isAhead_33 s0 h = some res) : J L xs l RX12 cX12_isAhead 4 false 2 (QB res) 0 0 33 [] [vi s0] h := by
  unfold fX12_isAhead_33 at H
  obtain ⟨u1, e1, H⟩ := bs H
  obtain rfl := Option.some.inj H
  exact j_iret dX12_isAhead_33 rs0 ⟨rfl, rfl, cbo_R e1⟩
noncomputable def fX12_isAhead_19 (x1 : Nat) (x2 : Nat) (x3 : Int) (h : Hp) : Option (Int × Hp) :=
  (ald h 0 x1 x3).bind fun v1 => (ald h 0 x2 x3).bind fun v2 => if v2 ≤ v1 then (fX12_isAhead_33 0 h) else (fX12_isAhead_33 1 h)
theorem tX12_isAhead_19 {L : Nat} {xs : Nat → Int32} {l : Launch} {res : Int × Hp} (x1 : Nat) (x2 : Nat) (x3 : Int) (h : Hp) (rx3 : R32 x3) (H : fX12_isAhead_19 x1 x2 x3 h = some res) : J L xs l RX12 cX12_isAhead 4 false 2 (QB res) 0 0 19 [(1, vr x1), (2, vr x2), (3, vi x3)] [] h := by
  unfold fX12_isAhead_19 at H
  refine j_aload_n (i := 1) (pc' := 20) dX12_isAhead_19 rfl rfl 0 rfl ?_
  refine j_iload_n (i := 3) (pc' := 21) dX12_isAhead_20 rfl rfl 2 rfl ?_
  obtain ⟨v1, e1, H⟩ := bs H
  refine j_iald (pc' := 22) dX12_isAhead_21 rfl e1 (fun r1 => ?_)
  refine j_aload_n (i := 2) (pc' := 23) dX12_isAhead_22 rfl rfl 1 rfl ?_
  refine j_iload_n (i := 3) (pc' := 24) dX12_isAhead_23 rfl rfl 2 rfl ?_
  obtain ⟨v2, e2, H⟩ := bs H
  refine j_iald (pc' := 25) dX12_isAhead_24 rfl e2 (fun r2 => ?_)
  refine j_icmp_ge (tgt := 32) (pc' := 28) dX12_isAhead_25 (by decide) rfl r1 r2 (fun c3 => ?_) (fun c3 => ?_)
  · rw [if_pos c3] at H
    refine j_iconst (pc' := 33) dX12_isAhead_32 rfl ?_
    refine j_sub (lv' := []) [] rfl ?_
    exact tX12_isAhead_33   0 h ⟨by decide, by decide⟩ H
  · rw [if_neg c3] at H
    refine j_iconst (pc' := 29) dX12_isAhead_28 rfl ?_
    refine j_goto (tgt := 33) dX12_isAhead_29 (by decide) ?_
    refine j_sub (lv' := []) [] rfl ?_
    exact tX12_isAhead_33   1 h ⟨by decide, by decide⟩ H
noncomputable def fX12_isAhead_2 : Nat → Nat → Nat → Nat → Int → Hp → Option (Int × Hp)
  | 0, _, _, _, _, _ => none
  | n + 1, x0, x1, x2, x3, h => (cob h 11 x0).bind fun _ => (fX12_n x0 h).bind fun p2 => if p2.1 ≤ x3 then (fX12_isAhead_40 p2.2) else ((ald p2.2 0 x1 x3).bind fun v4 => (ald p2.2 0 x2 x3).bind fun v5 => if v4 = v5 then ((c32 (x3 + 1)).bind fun _ => fX12_isAhead_2 n x0 x1 x2 (x3 + 1) p2.2) else (fX12_isAhead_19 x1 x2 x3 p2.2))
theorem tX12_isAhead_2 {L : Nat} {xs : Nat → Int32} {l : Launch} {res : Int × Hp} : ∀ (n : Nat) (x0 : Nat) (x1 : Nat) (x2 : Nat) (x3 : Int) (h : Hp), R32 x3 → fX12_isAhead_2 n x0 x1 x2 x3 h = some res → J L xs l RX12 cX12_isAhead 4 false 2 (QB res) 0 0 2 [(0, vr x0), (1, vr x1), (2, vr x2), (3, vi x3)] [] h := by
  intro n
  induction n with
  | zero => intro x0 x1 x2 x3 h rx3 H; cases H
  | succ n ih =>
    intro x0 x1 x2 x3 h rx3 H
    rw [fX12_isAhead_2] at H
    refine j_iload_n (i := 3) (pc' := 3) dX12_isAhead_2 rfl rfl 3 rfl ?_
    refine j_aload_n (i := 0) (pc' := 4) dX12_isAhead_3 rfl rfl 0 rfl ?_
    obtain ⟨u1, e1, H⟩ := bs H
    obtain ⟨p2, e2, H⟩ := bs H
    refine j_cVi (y := yX12_n) (dY := 1) (vs := []) (st := [vi x3]) (q := x0) (pc' := 7) dX12_isAhead_4 rfl ymX12_n yvX12_n ml_X12_90 (by decide) rfl (Nat.le_of_ble_eq_true rfl) (Nat.le_of_ble_eq_true rfl) e1 (tX12_n x0 h e2) (fun r2 z2 => ?_)
    refine j_icmp_ge (tgt := 40) (pc' := 10) dX12_isAhead_7 (by decide) rfl rx3 r2 (fun c3 => ?_) (fun c3 => ?_)
    · rw [if_pos c3] at H
      refine j_sub (lv' := []) [] rfl ?_
      exact tX12_isAhead_40   p2.2  H
    · rw [if_neg c3] at H
      refine j_aload_n (i := 1) (pc' := 11) dX12_isAhead_10 rfl rfl 1 rfl ?_
      refine j_iload_n (i := 3) (pc' := 12) dX12_isAhead_11 rfl rfl 3 rfl ?_
      obtain ⟨v4, e4, H⟩ := bs H
      refine j_iald (pc' := 13) dX12_isAhead_12 rfl e4 (fun r4 => ?_)
      refine j_aload_n (i := 2) (pc' := 14) dX12_isAhead_13 rfl rfl 2 rfl ?_
      refine j_iload_n (i := 3) (pc' := 15) dX12_isAhead_14 rfl rfl 3 rfl ?_
      obtain ⟨v5, e5, H⟩ := bs H
      refine j_iald (pc' := 16) dX12_isAhead_15 rfl e5 (fun r5 => ?_)
      refine j_icmp_eq (tgt := 34) (pc' := 19) dX12_isAhead_16 (by decide) rfl r4 r5 (fun c6 => ?_) (fun c6 => ?_)
      · rw [if_pos c6] at H
        obtain ⟨u7, e7, H⟩ := bs H
        have r7 := c32_R e7
        refine j_iinc (k0 := 3) (lv' := [(0, vr x0), (1, vr x1), (2, vr x2), (3, vi (x3 + 1))]) (pc' := 37) dX12_isAhead_34 rfl rfl (by decide) [1, 2, 3, 0] rfl ?_
        refine j_goto (tgt := 2) dX12_isAhead_37 (by decide) ?_
        exact ih x0 x1 x2 (x3 + 1) p2.2 r7 H
      · rw [if_neg c6] at H
        refine j_sub (lv' := [(1, vr x1), (2, vr x2), (3, vi x3)]) [1, 2, 3] rfl ?_
        exact tX12_isAhead_19   x1 x2 x3 p2.2 rx3 H
noncomputable def fX12_isAhead (a0 : Nat) (a1 : Nat) (a2 : Nat) (h : Hp) : Option (Int × Hp) :=
  fX12_isAhead_2 FU a0 a1 a2 0 h
theorem tX12_isAhead {L : Nat} {xs : Nat → Int32} {l : Launch} {res : Int × Hp} (a0 : Nat) (a1 : Nat) (a2 : Nat) (h : Hp)  (H : fX12_isAhead a0 a1 a2 h = some res) : J L xs l RX12 cX12_isAhead 4 false 2 (QB res) 0 0 0 (alv 0 [vr a0, vr a1, vr a2]) [] h := by
  unfold fX12_isAhead at H
  show J L xs l RX12 cX12_isAhead 4 false 2 (QB res) 0 0 0 [(0, vr a0), (1, vr a1), (2, vr a2)] [] h
  refine j_iconst (pc' := 1) dX12_isAhead_0 rfl ?_
  refine j_istore_n (i := 3) (lv' := [(0, vr a0), (1, vr a1), (2, vr a2), (3, vi 0)]) (pc' := 2) dX12_isAhead_1 rfl rfl (by decide) [1, 2, 3, 0] rfl ?_
  exact tX12_isAhead_2   FU a0 a1 a2 0 h ⟨by decide, by decide⟩ H
-- X12_useWays
noncomputable def fX12_useWays_27  (h : Hp) : Option (Hp) :=
  some h
theorem tX12_useWays_27 {L : Nat} {xs : Nat → Int32} {l : Launch} {res : Hp}  (h : Hp)  (H : fX12_useWays_27  h = some res) : J L xs l RX12 cX12_useWays 2 false 1 (QV res) 0 0 27 [] [] h := by
  unfold fX12_useWays_27 at H
  obtain rfl := Option.some.inj H
  exact j_vret dX12_useWays_27 ⟨rfl, rfl⟩
noncomputable def fX12_useWays_2 : Nat → Nat → Int → Hp → Option (Hp)
  | 0, _, _, _ => none
  | n + 1, x0, x1, h => if 144 ≤ x1 then (fX12_useWays_27 h) else ((getR h 11 x0 23).bind fun v2 => (getR h 11 x0 2).bind fun v3 => (ald h 0 v3 x1).bind fun v4 => (ast h 0 v2 x1 v4).bind fun h5 => (c32 (x1 + 1)).bind fun _ => fX12_useWays_2 n x0 (x1 + 1) h5)
theorem tX12_useWays_2 {L : Nat} {xs : Nat → Int32} {l : Launch} {res : Hp} : ∀ (n : Nat) (x0 : Nat) (x1 : Int) (h : Hp), R32 x1 → fX12_useWays_2 n x0 x1 h = some res → J L xs l RX12 cX12_useWays 2 false 1 (QV res) 0 0 2 [(0, vr x0), (1, vi x1)] [] h := by
  intro n
  induction n with
  | zero => intro x0 x1 h rx1 H; cases H
  | succ n ih =>
    intro x0 x1 h rx1 H
    rw [fX12_useWays_2] at H
    refine j_iload_n (i := 1) (pc' := 3) dX12_useWays_2 rfl rfl 1 rfl ?_
    refine j_sipush (pc' := 6) dX12_useWays_3 rfl (by decide +kernel) ?_
    refine j_icmp_ge (tgt := 27) (pc' := 9) dX12_useWays_6 (by decide) rfl rx1 ⟨by decide, by decide⟩ (fun c1 => ?_) (fun c1 => ?_)
    · rw [if_pos c1] at H
      refine j_sub (lv' := []) [] rfl ?_
      exact tX12_useWays_27   h  H
    · rw [if_neg c1] at H
      refine j_aload_n (i := 0) (pc' := 10) dX12_useWays_9 rfl rfl 0 rfl ?_
      obtain ⟨v2, e2, H⟩ := bs H
      refine j_getR (pc' := 13) dX12_useWays_10 rfl fl_X12_67 e2 (fun r2 => ?_)
      refine j_iload_n (i := 1) (pc' := 14) dX12_useWays_13 rfl rfl 1 rfl ?_
      refine j_aload_n (i := 0) (pc' := 15) dX12_useWays_14 rfl rfl 0 rfl ?_
      obtain ⟨v3, e3, H⟩ := bs H
      refine j_getR (pc' := 18) dX12_useWays_15 rfl fl_X12_16 e3 (fun r3 => ?_)
      refine j_iload_n (i := 1) (pc' := 19) dX12_useWays_18 rfl rfl 1 rfl ?_
      obtain ⟨v4, e4, H⟩ := bs H
      refine j_iald (pc' := 20) dX12_useWays_19 rfl e4 (fun r4 => ?_)
      obtain ⟨h5, e5, H⟩ := bs H
      refine j_iast (pc' := 21) dX12_useWays_20 rfl r4 e5 ?_
      obtain ⟨u6, e6, H⟩ := bs H
      have r6 := c32_R e6
      refine j_iinc (k0 := 1) (lv' := [(0, vr x0), (1, vi (x1 + 1))]) (pc' := 24) dX12_useWays_21 rfl rfl (by decide) [1, 0] rfl ?_
      refine j_goto (tgt := 2) dX12_useWays_24 (by decide) ?_
      exact ih x0 (x1 + 1) h5 r6 H
noncomputable def fX12_useWays (a0 : Nat) (h : Hp) : Option (Hp) :=
  fX12_useWays_2 FU a0 0 h
theorem tX12_useWays {L : Nat} {xs : Nat → Int32} {l : Launch} {res : Hp} (a0 : Nat) (h : Hp)  (H : fX12_useWays a0 h = some res) : J L xs l RX12 cX12_useWays 2 false 1 (QV res) 0 0 0 (alv 0 [vr a0]) [] h := by
  unfold fX12_useWays at H
  show J L xs l RX12 cX12_useWays 2 false 1 (QV res) 0 0 0 [(0, vr a0)] [] h
  refine j_iconst (pc' := 1) dX12_useWays_0 rfl ?_
  refine j_istore_n (i := 1) (lv' := [(0, vr a0), (1, vi 0)]) (pc' := 2) dX12_useWays_1 rfl rfl (by decide) [1, 0] rfl ?_
  exact tX12_useWays_2   FU a0 0 h ⟨by decide, by decide⟩ H
-- X12_sumTo
noncomputable def fX12_sumTo_46 (x4 : Int) (h : Hp) : Option (Int × Hp) :=
  some (x4, h)
theorem tX12_sumTo_46 {L : Nat} {xs : Nat → Int32} {l : Launch} {res : Int × Hp} (x4 : Int) (h : Hp) (rx4 : R32 x4) (H : fX12_sumTo_46 x4 h = some res) : J L xs l RX12 cX12_sumTo 6 false 2 (QI res) 0 0 46 [(4, vi x4)] [] h := by
  unfold fX12_sumTo_46 at H
  refine j_iload (pc' := 48) dX12_sumTo_46 rfl 0 rfl ?_
  obtain rfl := Option.some.inj H
  exact j_iret dX12_sumTo_48 rx4 ⟨rfl, rfl⟩
noncomputable def fX12_sumTo_40 (k6 : Nat → Nat → Int → Int → Int → Int → Hp → Option (Int × Hp)) (x0 : Nat) (x1 : Nat) (x2 : Int) (x3 : Int) (x4 : Int) (x5 : Int) (h : Hp) : Option (Int × Hp) :=
  (c32 (x5 + 1)).bind fun _ => k6 x0 x1 x2 x3 x4 (x5 + 1) h
theorem tX12_sumTo_40 {L : Nat} {xs : Nat → Int32} {l : Launch} {res : Int × Hp} (k6 : Nat → Nat → Int → Int → Int → Int → Hp → Option (Int × Hp)) (hk6 : ∀ (x0 : Nat) (x1 : Nat) (x2 : Int) (x3 : Int) (x4 : Int) (x5 : Int) (h : Hp), R32 x2 → R32 x3 → R32 x4 → R32 x5 → k6 x0 x1 x2 x3 x4 x5 h = some res → J L xs l RX12 cX12_sumTo 6 false 2 (QI res) 0 0 6 [(0, vr x0), (1, vr x1), (2, vi x2), (3, vi x3), (4, vi x4), (5, vi x5)] [] h) (x0 : Nat) (x1 : Nat) (x2 : Int) (x3 : Int) (x4 : Int) (x5 : Int) (h : Hp) (rx2 : R32 x2) (rx3 : R32 x3) (rx4 : R32 x4) (rx5 : R32 x5) (H : fX12_sumTo_40 k6 x0 x1 x2 x3 x4 x5 h = some res) : J L xs l RX12 cX12_sumTo 6 false 2 (QI res) 0 0 40 [(0, vr x0), (1, vr x1), (2, vi x2), (3, vi x3), (4, vi x4), (5, vi x5)] [] h := by
  unfold fX12_sumTo_40 at H
  obtain ⟨u1, e1, H⟩ := bs H
  have r1 := c32_R e1
  refine j_iinc (k0 := 5) (lv' := [(0, vr x0), (1, vr x1), (2, vi x2), (3, vi x3), (4, vi x4), (5, vi (x5 + 1))]) (pc' := 43) dX12_sumTo_40 rfl rfl (by decide) [1, 2, 3, 4, 5, 0] rfl ?_
  refine j_goto (tgt := 6) dX12_sumTo_43 (by decide) ?_
  exact hk6 x0 x1 x2 x3 x4 (x5 + 1) h rx2 rx3 rx4 r1 H
noncomputable def fX12_sumTo_6 : Nat → Nat → Nat → Int → Int → Int → Int → Hp → Option (Int × Hp)
  | 0, _, _, _, _, _, _, _ => none
  | n + 1, x0, x1, x2, x3, x4, x5, h => (cob h 11 x0).bind fun _ => (fX12_n x0 h).bind fun p2 => if p2.1 ≤ x5 then (fX12_sumTo_46 x4 p2.2) else ((ald p2.2 0 x1 x5).bind fun v4 => if v4 = x2 then ((getR p2.2 11 x0 23).bind fun v6 => (ald p2.2 0 v6 ((12 * x3) + x5)).bind fun v7 => (c32 (x4 + v7)).bind fun _ => fX12_sumTo_40 (fX12_sumTo_6 n) x0 x1 x2 x3 (x4 + v7) x5 p2.2) else (fX12_sumTo_40 (fX12_sumTo_6 n) x0 x1 x2 x3 x4 x5 p2.2))
theorem tX12_sumTo_6 {L : Nat} {xs : Nat → Int32} {l : Launch} {res : Int × Hp} : ∀ (n : Nat) (x0 : Nat) (x1 : Nat) (x2 : Int) (x3 : Int) (x4 : Int) (x5 : Int) (h : Hp), R32 x2 → R32 x3 → R32 x4 → R32 x5 → fX12_sumTo_6 n x0 x1 x2 x3 x4 x5 h = some res → J L xs l RX12 cX12_sumTo 6 false 2 (QI res) 0 0 6 [(0, vr x0), (1, vr x1), (2, vi x2), (3, vi x3), (4, vi x4), (5, vi x5)] [] h := by
  intro n
  induction n with
  | zero => intro x0 x1 x2 x3 x4 x5 h rx2 rx3 rx4 rx5 H; cases H
  | succ n ih =>
    intro x0 x1 x2 x3 x4 x5 h rx2 rx3 rx4 rx5 H
    rw [fX12_sumTo_6] at H
    refine j_iload (pc' := 8) dX12_sumTo_6 rfl 5 rfl ?_
    refine j_aload_n (i := 0) (pc' := 9) dX12_sumTo_8 rfl rfl 0 rfl ?_
    obtain ⟨u1, e1, H⟩ := bs H
    obtain ⟨p2, e2, H⟩ := bs H
    refine j_cVi (y := yX12_n) (dY := 1) (vs := []) (st := [vi x5]) (q := x0) (pc' := 12) dX12_sumTo_9 rfl ymX12_n yvX12_n ml_X12_90 (by decide) rfl (Nat.le_of_ble_eq_true rfl) (Nat.le_of_ble_eq_true rfl) e1 (tX12_n x0 h e2) (fun r2 z2 => ?_)
    refine j_icmp_ge (tgt := 46) (pc' := 15) dX12_sumTo_12 (by decide) rfl rx5 r2 (fun c3 => ?_) (fun c3 => ?_)
    · rw [if_pos c3] at H
      refine j_sub (lv' := [(4, vi x4)]) [4] rfl ?_
      exact tX12_sumTo_46   x4 p2.2 rx4 H
    · rw [if_neg c3] at H
      refine j_aload_n (i := 1) (pc' := 16) dX12_sumTo_15 rfl rfl 1 rfl ?_
      refine j_iload (pc' := 18) dX12_sumTo_16 rfl 5 rfl ?_
      obtain ⟨v4, e4, H⟩ := bs H
      refine j_iald (pc' := 19) dX12_sumTo_18 rfl e4 (fun r4 => ?_)
      refine j_iload_n (i := 2) (pc' := 20) dX12_sumTo_19 rfl rfl 2 rfl ?_
      refine j_icmp_ne (tgt := 40) (pc' := 23) dX12_sumTo_20 (by decide) rfl r4 rx2 (fun c5 => ?_) (fun c5 => ?_)
      · rw [if_neg c5] at H
        exact tX12_sumTo_40 _ ih x0 x1 x2 x3 x4 x5 p2.2 rx2 rx3 rx4 rx5 H
      · rw [if_pos c5] at H
        refine j_iload (pc' := 25) dX12_sumTo_23 rfl 4 rfl ?_
        refine j_aload_n (i := 0) (pc' := 26) dX12_sumTo_25 rfl rfl 0 rfl ?_
        obtain ⟨v6, e6, H⟩ := bs H
        refine j_getR (pc' := 29) dX12_sumTo_26 rfl fl_X12_67 e6 (fun r6 => ?_)
        refine j_bipush (pc' := 31) dX12_sumTo_29 rfl (by decide +kernel) ?_
        refine j_iload_n (i := 3) (pc' := 32) dX12_sumTo_31 rfl rfl 3 rfl ?_
        refine j_imul (pc' := 33) dX12_sumTo_32 rfl ?_
        refine j_iload (pc' := 35) dX12_sumTo_33 rfl 5 rfl ?_
        refine j_iadd (pc' := 36) dX12_sumTo_35 rfl ?_
        obtain ⟨v7, e7, H⟩ := bs H
        refine j_iald (pc' := 37) dX12_sumTo_36 rfl e7 (fun r7 => ?_)
        refine j_iadd (pc' := 38) dX12_sumTo_37 rfl ?_
        obtain ⟨u8, e8, H⟩ := bs H
        have r8 := c32_R e8
        refine j_istore (lv' := [(0, vr x0), (1, vr x1), (2, vi x2), (3, vi x3), (4, vi (x4 + v7)), (5, vi x5)]) (pc' := 40) dX12_sumTo_38 rfl (by decide) [1, 2, 3, 4, 0, 5] rfl ?_
        exact tX12_sumTo_40 _ ih x0 x1 x2 x3 (x4 + v7) x5 p2.2 rx2 rx3 r8 rx5 H
noncomputable def fX12_sumTo (a0 : Nat) (a1 : Nat) (a2 : Int) (a3 : Int) (h : Hp) : Option (Int × Hp) :=
  fX12_sumTo_6 FU a0 a1 a2 a3 0 0 h
theorem tX12_sumTo {L : Nat} {xs : Nat → Int32} {l : Launch} {res : Int × Hp} (a0 : Nat) (a1 : Nat) (a2 : Int) (a3 : Int) (h : Hp) (ra2 : R32 a2) (ra3 : R32 a3) (H : fX12_sumTo a0 a1 a2 a3 h = some res) : J L xs l RX12 cX12_sumTo 6 false 2 (QI res) 0 0 0 (alv 0 [vr a0, vr a1, vi a2, vi a3]) [] h := by
  unfold fX12_sumTo at H
  show J L xs l RX12 cX12_sumTo 6 false 2 (QI res) 0 0 0 [(0, vr a0), (1, vr a1), (2, vi a2), (3, vi a3)] [] h
  refine j_iconst (pc' := 1) dX12_sumTo_0 rfl ?_
  refine j_istore (lv' := [(0, vr a0), (1, vr a1), (2, vi a2), (3, vi a3), (4, vi 0)]) (pc' := 3) dX12_sumTo_1 rfl (by decide) [1, 2, 3, 4, 0] rfl ?_
  refine j_iconst (pc' := 4) dX12_sumTo_3 rfl ?_
  refine j_istore (lv' := [(0, vr a0), (1, vr a1), (2, vi a2), (3, vi a3), (4, vi 0), (5, vi 0)]) (pc' := 6) dX12_sumTo_4 rfl (by decide) [1, 2, 3, 4, 5, 0] rfl ?_
  exact tX12_sumTo_6   FU a0 a1 a2 a3 0 0 h ra2 ra3 ⟨by decide, by decide⟩ ⟨by decide, by decide⟩ H
-- X12_middleOf
noncomputable def fX12_middleOf_57 (x3 : Int) (h : Hp) : Option (Int × Hp) :=
  some (x3, h)
theorem tX12_middleOf_57 {L : Nat} {xs : Nat → Int32} {l : Launch} {res : Int × Hp} (x3 : Int) (h : Hp) (rx3 : R32 x3) (H : fX12_middleOf_57 x3 h = some res) : J L xs l RX12 cX12_middleOf 5 false 3 (QI res) 0 0 57 [(3, vi x3)] [] h := by
  unfold fX12_middleOf_57 at H
  refine j_iload_n (i := 3) (pc' := 58) dX12_middleOf_57 rfl rfl 0 rfl ?_
  obtain rfl := Option.some.inj H
  exact j_iret dX12_middleOf_58 rx3 ⟨rfl, rfl⟩
noncomputable def fX12_middleOf_51 (k5 : Nat → Nat → Int → Int → Int → Hp → Option (Int × Hp)) (x0 : Nat) (x1 : Nat) (x2 : Int) (x3 : Int) (x4 : Int) (h : Hp) : Option (Int × Hp) :=
  (c32 (x4 + 1)).bind fun _ => k5 x0 x1 x2 x3 (x4 + 1) h
theorem tX12_middleOf_51 {L : Nat} {xs : Nat → Int32} {l : Launch} {res : Int × Hp} (k5 : Nat → Nat → Int → Int → Int → Hp → Option (Int × Hp)) (hk5 : ∀ (x0 : Nat) (x1 : Nat) (x2 : Int) (x3 : Int) (x4 : Int) (h : Hp), R32 x2 → R32 x3 → R32 x4 → k5 x0 x1 x2 x3 x4 h = some res → J L xs l RX12 cX12_middleOf 5 false 3 (QI res) 0 0 5 [(0, vr x0), (1, vr x1), (2, vi x2), (3, vi x3), (4, vi x4)] [] h) (x0 : Nat) (x1 : Nat) (x2 : Int) (x3 : Int) (x4 : Int) (h : Hp) (rx2 : R32 x2) (rx3 : R32 x3) (rx4 : R32 x4) (H : fX12_middleOf_51 k5 x0 x1 x2 x3 x4 h = some res) : J L xs l RX12 cX12_middleOf 5 false 3 (QI res) 0 0 51 [(0, vr x0), (1, vr x1), (2, vi x2), (3, vi x3), (4, vi x4)] [] h := by
  unfold fX12_middleOf_51 at H
  obtain ⟨u1, e1, H⟩ := bs H
  have r1 := c32_R e1
  refine j_iinc (k0 := 4) (lv' := [(0, vr x0), (1, vr x1), (2, vi x2), (3, vi x3), (4, vi (x4 + 1))]) (pc' := 54) dX12_middleOf_51 rfl rfl (by decide) [1, 2, 3, 4, 0] rfl ?_
  refine j_goto (tgt := 5) dX12_middleOf_54 (by decide) ?_
  exact hk5 x0 x1 x2 x3 (x4 + 1) h rx2 rx3 r1 H
noncomputable def fX12_middleOf_48 (k5 : Nat → Nat → Int → Int → Int → Hp → Option (Int × Hp)) (x0 : Nat) (x1 : Nat) (x2 : Int) (x4 : Int) (h : Hp) : Option (Int × Hp) :=
  fX12_middleOf_51 k5 x0 x1 x2 x4 x4 h
theorem tX12_middleOf_48 {L : Nat} {xs : Nat → Int32} {l : Launch} {res : Int × Hp} (k5 : Nat → Nat → Int → Int → Int → Hp → Option (Int × Hp)) (hk5 : ∀ (x0 : Nat) (x1 : Nat) (x2 : Int) (x3 : Int) (x4 : Int) (h : Hp), R32 x2 → R32 x3 → R32 x4 → k5 x0 x1 x2 x3 x4 h = some res → J L xs l RX12 cX12_middleOf 5 false 3 (QI res) 0 0 5 [(0, vr x0), (1, vr x1), (2, vi x2), (3, vi x3), (4, vi x4)] [] h) (x0 : Nat) (x1 : Nat) (x2 : Int) (x4 : Int) (h : Hp) (rx2 : R32 x2) (rx4 : R32 x4) (H : fX12_middleOf_48 k5 x0 x1 x2 x4 h = some res) : J L xs l RX12 cX12_middleOf 5 false 3 (QI res) 0 0 48 [(0, vr x0), (1, vr x1), (2, vi x2), (4, vi x4)] [] h := by
  unfold fX12_middleOf_48 at H
  refine j_iload (pc' := 50) dX12_middleOf_48 rfl 3 rfl ?_
  refine j_istore_n (i := 3) (lv' := [(0, vr x0), (1, vr x1), (2, vi x2), (3, vi x4), (4, vi x4)]) (pc' := 51) dX12_middleOf_50 rfl rfl (by decide) [1, 2, 3, 0, 4] rfl ?_
  exact tX12_middleOf_51 _ hk5 x0 x1 x2 x4 x4 h rx2 rx4 rx4 H
noncomputable def fX12_middleOf_5 : Nat → Nat → Nat → Int → Int → Int → Hp → Option (Int × Hp)
  | 0, _, _, _, _, _, _ => none
  | n + 1, x0, x1, x2, x3, x4, h => (cob h 11 x0).bind fun _ => (fX12_n x0 h).bind fun p2 => if p2.1 ≤ x4 then (fX12_middleOf_57 x3 p2.2) else ((ald p2.2 0 x1 x4).bind fun v4 => if v4 = x2 then (if x3 = (-1) then (fX12_middleOf_48 (fX12_middleOf_5 n) x0 x1 x2 x4 p2.2) else ((cob p2.2 11 x0).bind fun _ => (fX12_sumTo x0 x1 x2 x4 p2.2).bind fun p8 => (cob p8.2 11 x0).bind fun _ => (fX12_sumTo x0 x1 x2 x3 p8.2).bind fun p10 => if p10.1 ≤ p8.1 then (fX12_middleOf_51 (fX12_middleOf_5 n) x0 x1 x2 x3 x4 p10.2) else (fX12_middleOf_48 (fX12_middleOf_5 n) x0 x1 x2 x4 p10.2))) else (fX12_middleOf_51 (fX12_middleOf_5 n) x0 x1 x2 x3 x4 p2.2))
theorem tX12_middleOf_5 {L : Nat} {xs : Nat → Int32} {l : Launch} {res : Int × Hp} : ∀ (n : Nat) (x0 : Nat) (x1 : Nat) (x2 : Int) (x3 : Int) (x4 : Int) (h : Hp), R32 x2 → R32 x3 → R32 x4 → fX12_middleOf_5 n x0 x1 x2 x3 x4 h = some res → J L xs l RX12 cX12_middleOf 5 false 3 (QI res) 0 0 5 [(0, vr x0), (1, vr x1), (2, vi x2), (3, vi x3), (4, vi x4)] [] h := by
  intro n
  induction n with
  | zero => intro x0 x1 x2 x3 x4 h rx2 rx3 rx4 H; cases H
  | succ n ih =>
    intro x0 x1 x2 x3 x4 h rx2 rx3 rx4 H
    rw [fX12_middleOf_5] at H
    refine j_iload (pc' := 7) dX12_middleOf_5 rfl 4 rfl ?_
    refine j_aload_n (i := 0) (pc' := 8) dX12_middleOf_7 rfl rfl 0 rfl ?_
    obtain ⟨u1, e1, H⟩ := bs H
    obtain ⟨p2, e2, H⟩ := bs H
    refine j_cVi (y := yX12_n) (dY := 1) (vs := []) (st := [vi x4]) (q := x0) (pc' := 11) dX12_middleOf_8 rfl ymX12_n yvX12_n ml_X12_90 (by decide) rfl (Nat.le_of_ble_eq_true rfl) (Nat.le_of_ble_eq_true rfl) e1 (tX12_n x0 h e2) (fun r2 z2 => ?_)
    refine j_icmp_ge (tgt := 57) (pc' := 14) dX12_middleOf_11 (by decide) rfl rx4 r2 (fun c3 => ?_) (fun c3 => ?_)
    · rw [if_pos c3] at H
      refine j_sub (lv' := [(3, vi x3)]) [3] rfl ?_
      exact tX12_middleOf_57   x3 p2.2 rx3 H
    · rw [if_neg c3] at H
      refine j_aload_n (i := 1) (pc' := 15) dX12_middleOf_14 rfl rfl 1 rfl ?_
      refine j_iload (pc' := 17) dX12_middleOf_15 rfl 4 rfl ?_
      obtain ⟨v4, e4, H⟩ := bs H
      refine j_iald (pc' := 18) dX12_middleOf_17 rfl e4 (fun r4 => ?_)
      refine j_iload_n (i := 2) (pc' := 19) dX12_middleOf_18 rfl rfl 2 rfl ?_
      refine j_icmp_eq (tgt := 25) (pc' := 22) dX12_middleOf_19 (by decide) rfl r4 rx2 (fun c5 => ?_) (fun c5 => ?_)
      · rw [if_pos c5] at H
        refine j_iload_n (i := 3) (pc' := 26) dX12_middleOf_25 rfl rfl 3 rfl ?_
        refine j_iconst (pc' := 27) dX12_middleOf_26 rfl ?_
        refine j_icmp_eq (tgt := 48) (pc' := 30) dX12_middleOf_27 (by decide) rfl rx3 ⟨by decide, by decide⟩ (fun c6 => ?_) (fun c6 => ?_)
        · rw [if_pos c6] at H
          refine j_sub (lv' := [(0, vr x0), (1, vr x1), (2, vi x2), (4, vi x4)]) [0, 1, 2, 4] rfl ?_
          exact tX12_middleOf_48 _ ih x0 x1 x2 x4 p2.2 rx2 rx4 H
        · rw [if_neg c6] at H
          refine j_aload_n (i := 0) (pc' := 31) dX12_middleOf_30 rfl rfl 0 rfl ?_
          refine j_aload_n (i := 1) (pc' := 32) dX12_middleOf_31 rfl rfl 1 rfl ?_
          refine j_iload_n (i := 2) (pc' := 33) dX12_middleOf_32 rfl rfl 2 rfl ?_
          refine j_iload (pc' := 35) dX12_middleOf_33 rfl 4 rfl ?_
          obtain ⟨u7, e7, H⟩ := bs H
          obtain ⟨p8, e8, H⟩ := bs H
          refine j_cVi (y := yX12_sumTo) (dY := 2) (vs := [vr x1, vi x2, vi x4]) (st := []) (q := x0) (pc' := 38) dX12_middleOf_35 rfl ymX12_sumTo yvX12_sumTo ml_X12_129 (by decide) rfl (Nat.le_of_ble_eq_true rfl) (Nat.le_of_ble_eq_true rfl) e7 (tX12_sumTo x0 x1 x2 x4 p2.2 rx2 rx4 e8) (fun r8 z8 => ?_)
          refine j_aload_n (i := 0) (pc' := 39) dX12_middleOf_38 rfl rfl 0 rfl ?_
          refine j_aload_n (i := 1) (pc' := 40) dX12_middleOf_39 rfl rfl 1 rfl ?_
          refine j_iload_n (i := 2) (pc' := 41) dX12_middleOf_40 rfl rfl 2 rfl ?_
          refine j_iload_n (i := 3) (pc' := 42) dX12_middleOf_41 rfl rfl 3 rfl ?_
          obtain ⟨u9, e9, H⟩ := bs H
          obtain ⟨p10, e10, H⟩ := bs H
          refine j_cVi (y := yX12_sumTo) (dY := 2) (vs := [vr x1, vi x2, vi x3]) (st := [vi p8.1]) (q := x0) (pc' := 45) dX12_middleOf_42 rfl ymX12_sumTo yvX12_sumTo ml_X12_129 (by decide) rfl (Nat.le_of_ble_eq_true rfl) (Nat.le_of_ble_eq_true rfl) e9 (tX12_sumTo x0 x1 x2 x3 p8.2 rx2 rx3 e10) (fun r10 z10 => ?_)
          refine j_icmp_ge (tgt := 51) (pc' := 48) dX12_middleOf_45 (by decide) rfl r8 r10 (fun c11 => ?_) (fun c11 => ?_)
          · rw [if_pos c11] at H
            exact tX12_middleOf_51 _ ih x0 x1 x2 x3 x4 p10.2 rx2 rx3 rx4 H
          · rw [if_neg c11] at H
            refine j_sub (lv' := [(0, vr x0), (1, vr x1), (2, vi x2), (4, vi x4)]) [0, 1, 2, 4] rfl ?_
            exact tX12_middleOf_48 _ ih x0 x1 x2 x4 p10.2 rx2 rx4 H
      · rw [if_neg c5] at H
        refine j_goto (tgt := 51) dX12_middleOf_22 (by decide) ?_
        exact tX12_middleOf_51 _ ih x0 x1 x2 x3 x4 p2.2 rx2 rx3 rx4 H
noncomputable def fX12_middleOf (a0 : Nat) (a1 : Nat) (a2 : Int) (h : Hp) : Option (Int × Hp) :=
  fX12_middleOf_5 FU a0 a1 a2 (-1) 0 h
theorem tX12_middleOf {L : Nat} {xs : Nat → Int32} {l : Launch} {res : Int × Hp} (a0 : Nat) (a1 : Nat) (a2 : Int) (h : Hp) (ra2 : R32 a2) (H : fX12_middleOf a0 a1 a2 h = some res) : J L xs l RX12 cX12_middleOf 5 false 3 (QI res) 0 0 0 (alv 0 [vr a0, vr a1, vi a2]) [] h := by
  unfold fX12_middleOf at H
  show J L xs l RX12 cX12_middleOf 5 false 3 (QI res) 0 0 0 [(0, vr a0), (1, vr a1), (2, vi a2)] [] h
  refine j_iconst (pc' := 1) dX12_middleOf_0 rfl ?_
  refine j_istore_n (i := 3) (lv' := [(0, vr a0), (1, vr a1), (2, vi a2), (3, vi (-1))]) (pc' := 2) dX12_middleOf_1 rfl rfl (by decide) [1, 2, 3, 0] rfl ?_
  refine j_iconst (pc' := 3) dX12_middleOf_2 rfl ?_
  refine j_istore (lv' := [(0, vr a0), (1, vr a1), (2, vi a2), (3, vi (-1)), (4, vi 0)]) (pc' := 5) dX12_middleOf_3 rfl (by decide) [1, 2, 3, 4, 0] rfl ?_
  exact tX12_middleOf_5   FU a0 a1 a2 (-1) 0 h ra2 ⟨by decide, by decide⟩ ⟨by decide, by decide⟩ H
-- X12_costOf
noncomputable def fX12_costOf_310 (x3 : Int) (h : Hp) : Option (Int × Hp) :=
  some (x3, h)
theorem tX12_costOf_310 {L : Nat} {xs : Nat → Int32} {l : Launch} {res : Int × Hp} (x3 : Int) (h : Hp) (rx3 : R64 x3) (H : fX12_costOf_310 x3 h = some res) : J L xs l RX12 cX12_costOf 12 false 4 (QL res) 0 0 310 [(3, vl x3)] [] h := by
  unfold fX12_costOf_310 at H
  refine j_lload_n (i := 3) (pc' := 311) dX12_costOf_310 rfl rfl 0 rfl ?_
  obtain rfl := Option.some.inj H
  exact j_lret dX12_costOf_311 rx3 ⟨rfl, rfl⟩
noncomputable def fX12_costOf_304 (k193 : Nat → Nat → Int → Int → Int → Hp → Option (Int × Hp)) (x0 : Nat) (x1 : Nat) (x2 : Int) (x3 : Int) (x6 : Int) (h : Hp) : Option (Int × Hp) :=
  (c32 (x6 + 1)).bind fun _ => k193 x0 x1 x2 x3 (x6 + 1) h
theorem tX12_costOf_304 {L : Nat} {xs : Nat → Int32} {l : Launch} {res : Int × Hp} (k193 : Nat → Nat → Int → Int → Int → Hp → Option (Int × Hp)) (hk193 : ∀ (x0 : Nat) (x1 : Nat) (x2 : Int) (x3 : Int) (x6 : Int) (h : Hp), R32 x2 → R64 x3 → R32 x6 → k193 x0 x1 x2 x3 x6 h = some res → J L xs l RX12 cX12_costOf 12 false 4 (QL res) 0 0 193 [(0, vr x0), (1, vr x1), (2, vi x2), (3, vl x3), (6, vi x6)] [] h) (x0 : Nat) (x1 : Nat) (x2 : Int) (x3 : Int) (x6 : Int) (h : Hp) (rx2 : R32 x2) (rx3 : R64 x3) (rx6 : R32 x6) (H : fX12_costOf_304 k193 x0 x1 x2 x3 x6 h = some res) : J L xs l RX12 cX12_costOf 12 false 4 (QL res) 0 0 304 [(0, vr x0), (1, vr x1), (2, vi x2), (3, vl x3), (6, vi x6)] [] h := by
  unfold fX12_costOf_304 at H
  obtain ⟨u1, e1, H⟩ := bs H
  have r1 := c32_R e1
  refine j_iinc (k0 := 4) (lv' := [(0, vr x0), (1, vr x1), (2, vi x2), (3, vl x3), (6, vi (x6 + 1))]) (pc' := 307) dX12_costOf_304 rfl rfl (by decide) [1, 2, 3, 4, 0] rfl ?_
  refine j_goto (tgt := 193) dX12_costOf_307 (by decide) ?_
  exact hk193 x0 x1 x2 x3 (x6 + 1) h rx2 rx3 r1 H
noncomputable def fX12_costOf_298 (k193 : Nat → Nat → Int → Int → Int → Hp → Option (Int × Hp)) (k208 : Nat → Nat → Int → Int → Int → Int → Hp → Option (Int × Hp)) (x0 : Nat) (x1 : Nat) (x2 : Int) (x3 : Int) (x6 : Int) (x7 : Int) (h : Hp) : Option (Int × Hp) :=
  (c32 (x7 + 1)).bind fun _ => k208 x0 x1 x2 x3 x6 (x7 + 1) h
theorem tX12_costOf_298 {L : Nat} {xs : Nat → Int32} {l : Launch} {res : Int × Hp} (k193 : Nat → Nat → Int → Int → Int → Hp → Option (Int × Hp)) (k208 : Nat → Nat → Int → Int → Int → Int → Hp → Option (Int × Hp)) (hk193 : ∀ (x0 : Nat) (x1 : Nat) (x2 : Int) (x3 : Int) (x6 : Int) (h : Hp), R32 x2 → R64 x3 → R32 x6 → k193 x0 x1 x2 x3 x6 h = some res → J L xs l RX12 cX12_costOf 12 false 4 (QL res) 0 0 193 [(0, vr x0), (1, vr x1), (2, vi x2), (3, vl x3), (6, vi x6)] [] h) (hk208 : ∀ (x0 : Nat) (x1 : Nat) (x2 : Int) (x3 : Int) (x6 : Int) (x7 : Int) (h : Hp), R32 x2 → R64 x3 → R32 x6 → R32 x7 → k208 x0 x1 x2 x3 x6 x7 h = some res → J L xs l RX12 cX12_costOf 12 false 4 (QL res) 0 0 208 [(0, vr x0), (1, vr x1), (2, vi x2), (3, vl x3), (6, vi x6), (7, vi x7)] [] h) (x0 : Nat) (x1 : Nat) (x2 : Int) (x3 : Int) (x6 : Int) (x7 : Int) (h : Hp) (rx2 : R32 x2) (rx3 : R64 x3) (rx6 : R32 x6) (rx7 : R32 x7) (H : fX12_costOf_298 k193 k208 x0 x1 x2 x3 x6 x7 h = some res) : J L xs l RX12 cX12_costOf 12 false 4 (QL res) 0 0 298 [(0, vr x0), (1, vr x1), (2, vi x2), (3, vl x3), (6, vi x6), (7, vi x7)] [] h := by
  unfold fX12_costOf_298 at H
  obtain ⟨u1, e1, H⟩ := bs H
  have r1 := c32_R e1
  refine j_iinc (k0 := 5) (lv' := [(0, vr x0), (1, vr x1), (2, vi x2), (3, vl x3), (6, vi x6), (7, vi (x7 + 1))]) (pc' := 301) dX12_costOf_298 rfl rfl (by decide) [1, 2, 3, 4, 5, 0] rfl ?_
  refine j_goto (tgt := 208) dX12_costOf_301 (by decide) ?_
  exact hk208 x0 x1 x2 x3 x6 (x7 + 1) h rx2 rx3 rx6 r1 H
noncomputable def fX12_costOf_284 (k193 : Nat → Nat → Int → Int → Int → Hp → Option (Int × Hp)) (k208 : Nat → Nat → Int → Int → Int → Int → Hp → Option (Int × Hp)) (x0 : Nat) (x1 : Nat) (x2 : Int) (x3 : Int) (x6 : Int) (x7 : Int) (x8 : Int) (s0 : Int) (s1 : Int) (h : Hp) : Option (Int × Hp) :=
  if s1 = s0 then (fX12_costOf_298 k193 k208 x0 x1 x2 x3 x6 x7 h) else ((getR h 11 x0 3).bind fun v2 => (ald h 0 v2 x8).bind fun v3 => (c64 (x3 + v3)).bind fun _ => fX12_costOf_298 k193 k208 x0 x1 x2 (x3 + v3) x6 x7 h)
theorem tX12_costOf_284 {L : Nat} {xs : Nat → Int32} {l : Launch} {res : Int × Hp} (k193 : Nat → Nat → Int → Int → Int → Hp → Option (Int × Hp)) (k208 : Nat → Nat → Int → Int → Int → Int → Hp → Option (Int × Hp)) (hk193 : ∀ (x0 : Nat) (x1 : Nat) (x2 : Int) (x3 : Int) (x6 : Int) (h : Hp), R32 x2 → R64 x3 → R32 x6 → k193 x0 x1 x2 x3 x6 h = some res → J L xs l RX12 cX12_costOf 12 false 4 (QL res) 0 0 193 [(0, vr x0), (1, vr x1), (2, vi x2), (3, vl x3), (6, vi x6)] [] h) (hk208 : ∀ (x0 : Nat) (x1 : Nat) (x2 : Int) (x3 : Int) (x6 : Int) (x7 : Int) (h : Hp), R32 x2 → R64 x3 → R32 x6 → R32 x7 → k208 x0 x1 x2 x3 x6 x7 h = some res → J L xs l RX12 cX12_costOf 12 false 4 (QL res) 0 0 208 [(0, vr x0), (1, vr x1), (2, vi x2), (3, vl x3), (6, vi x6), (7, vi x7)] [] h) (x0 : Nat) (x1 : Nat) (x2 : Int) (x3 : Int) (x6 : Int) (x7 : Int) (x8 : Int) (s0 : Int) (s1 : Int) (h : Hp) (rx2 : R32 x2) (rx3 : R64 x3) (rx6 : R32 x6) (rx7 : R32 x7) (rx8 : R32 x8) (rs0 : R32 s0) (rs1 : R32 s1) (H : fX12_costOf_284 k193 k208 x0 x1 x2 x3 x6 x7 x8 s0 s1 h = some res) : J L xs l RX12 cX12_costOf 12 false 4 (QL res) 0 0 284 [(0, vr x0), (1, vr x1), (2, vi x2), (3, vl x3), (6, vi x6), (7, vi x7), (8, vi x8)] [vi s0, vi s1] h := by
  unfold fX12_costOf_284 at H
  refine j_icmp_eq (tgt := 298) (pc' := 287) dX12_costOf_284 (by decide) rfl rs1 rs0 (fun c1 => ?_) (fun c1 => ?_)
  · rw [if_pos c1] at H
    refine j_sub (lv' := [(0, vr x0), (1, vr x1), (2, vi x2), (3, vl x3), (6, vi x6), (7, vi x7)]) [0, 1, 2, 3, 4, 5] rfl ?_
    exact tX12_costOf_298 _ _ hk193 hk208 x0 x1 x2 x3 x6 x7 h rx2 rx3 rx6 rx7 H
  · rw [if_neg c1] at H
    refine j_lload_n (i := 3) (pc' := 288) dX12_costOf_287 rfl rfl 3 rfl ?_
    refine j_aload_n (i := 0) (pc' := 289) dX12_costOf_288 rfl rfl 0 rfl ?_
    obtain ⟨v2, e2, H⟩ := bs H
    refine j_getR (pc' := 292) dX12_costOf_289 rfl fl_X12_19 e2 (fun r2 => ?_)
    refine j_iload (pc' := 294) dX12_costOf_292 rfl 6 rfl ?_
    obtain ⟨v3, e3, H⟩ := bs H
    refine j_iald (pc' := 295) dX12_costOf_294 rfl e3 (fun r3 => ?_)
    refine j_i2l (pc' := 296) dX12_costOf_295 rfl r3 ?_
    refine j_ladd (pc' := 297) dX12_costOf_296 rfl ?_
    obtain ⟨u4, e4, H⟩ := bs H
    have r4 := c64_R e4
    refine j_lstore_n (i := 3) (lv' := [(0, vr x0), (1, vr x1), (2, vi x2), (3, vl (x3 + v3)), (6, vi x6), (7, vi x7), (8, vi x8)]) (pc' := 298) dX12_costOf_297 rfl rfl (by decide) [1, 2, 3, 0, 4, 5, 6] rfl ?_
    refine j_sub (lv' := [(0, vr x0), (1, vr x1), (2, vi x2), (3, vl (x3 + v3)), (6, vi x6), (7, vi x7)]) [0, 1, 2, 3, 4, 5] rfl ?_
    exact tX12_costOf_298 _ _ hk193 hk208 x0 x1 x2 (x3 + v3) x6 x7 h rx2 r4 rx6 rx7 H
noncomputable def fX12_costOf_256 (k193 : Nat → Nat → Int → Int → Int → Hp → Option (Int × Hp)) (k208 : Nat → Nat → Int → Int → Int → Int → Hp → Option (Int × Hp)) (x0 : Nat) (x1 : Nat) (x2 : Int) (x3 : Int) (x6 : Int) (x7 : Int) (x8 : Int) (h : Hp) : Option (Int × Hp) :=
  if x2 = 3 then ((getR h 11 x0 4).bind fun v2 => (ald h 2 v2 x8).bind fun v3 => (ald h 0 x1 x6).bind fun v4 => (ald h 0 x1 x7).bind fun v5 => if v4 = v5 then (fX12_costOf_284 k193 k208 x0 x1 x2 x3 x6 x7 x8 1 v3 h) else (fX12_costOf_284 k193 k208 x0 x1 x2 x3 x6 x7 x8 0 v3 h)) else (fX12_costOf_298 k193 k208 x0 x1 x2 x3 x6 x7 h)
theorem tX12_costOf_256 {L : Nat} {xs : Nat → Int32} {l : Launch} {res : Int × Hp} (k193 : Nat → Nat → Int → Int → Int → Hp → Option (Int × Hp)) (k208 : Nat → Nat → Int → Int → Int → Int → Hp → Option (Int × Hp)) (hk193 : ∀ (x0 : Nat) (x1 : Nat) (x2 : Int) (x3 : Int) (x6 : Int) (h : Hp), R32 x2 → R64 x3 → R32 x6 → k193 x0 x1 x2 x3 x6 h = some res → J L xs l RX12 cX12_costOf 12 false 4 (QL res) 0 0 193 [(0, vr x0), (1, vr x1), (2, vi x2), (3, vl x3), (6, vi x6)] [] h) (hk208 : ∀ (x0 : Nat) (x1 : Nat) (x2 : Int) (x3 : Int) (x6 : Int) (x7 : Int) (h : Hp), R32 x2 → R64 x3 → R32 x6 → R32 x7 → k208 x0 x1 x2 x3 x6 x7 h = some res → J L xs l RX12 cX12_costOf 12 false 4 (QL res) 0 0 208 [(0, vr x0), (1, vr x1), (2, vi x2), (3, vl x3), (6, vi x6), (7, vi x7)] [] h) (x0 : Nat) (x1 : Nat) (x2 : Int) (x3 : Int) (x6 : Int) (x7 : Int) (x8 : Int) (h : Hp) (rx2 : R32 x2) (rx3 : R64 x3) (rx6 : R32 x6) (rx7 : R32 x7) (rx8 : R32 x8) (H : fX12_costOf_256 k193 k208 x0 x1 x2 x3 x6 x7 x8 h = some res) : J L xs l RX12 cX12_costOf 12 false 4 (QL res) 0 0 256 [(0, vr x0), (1, vr x1), (2, vi x2), (3, vl x3), (6, vi x6), (7, vi x7), (8, vi x8)] [] h := by
  unfold fX12_costOf_256 at H
  refine j_iload_n (i := 2) (pc' := 257) dX12_costOf_256 rfl rfl 2 rfl ?_
  refine j_iconst (pc' := 258) dX12_costOf_257 rfl ?_
  refine j_icmp_ne (tgt := 298) (pc' := 261) dX12_costOf_258 (by decide) rfl rx2 ⟨by decide, by decide⟩ (fun c1 => ?_) (fun c1 => ?_)
  · rw [if_neg c1] at H
    refine j_sub (lv' := [(0, vr x0), (1, vr x1), (2, vi x2), (3, vl x3), (6, vi x6), (7, vi x7)]) [0, 1, 2, 3, 4, 5] rfl ?_
    exact tX12_costOf_298 _ _ hk193 hk208 x0 x1 x2 x3 x6 x7 h rx2 rx3 rx6 rx7 H
  · rw [if_pos c1] at H
    refine j_aload_n (i := 0) (pc' := 262) dX12_costOf_261 rfl rfl 0 rfl ?_
    obtain ⟨v2, e2, H⟩ := bs H
    refine j_getR (pc' := 265) dX12_costOf_262 rfl fl_X12_22 e2 (fun r2 => ?_)
    refine j_iload (pc' := 267) dX12_costOf_265 rfl 6 rfl ?_
    obtain ⟨v3, e3, H⟩ := bs H
    refine j_zald (pc' := 268) dX12_costOf_267 rfl e3 (fun r3 => ?_)
    refine j_aload_n (i := 1) (pc' := 269) dX12_costOf_268 rfl rfl 1 rfl ?_
    refine j_iload (pc' := 271) dX12_costOf_269 rfl 4 rfl ?_
    obtain ⟨v4, e4, H⟩ := bs H
    refine j_iald (pc' := 272) dX12_costOf_271 rfl e4 (fun r4 => ?_)
    refine j_aload_n (i := 1) (pc' := 273) dX12_costOf_272 rfl rfl 1 rfl ?_
    refine j_iload (pc' := 275) dX12_costOf_273 rfl 5 rfl ?_
    obtain ⟨v5, e5, H⟩ := bs H
    refine j_iald (pc' := 276) dX12_costOf_275 rfl e5 (fun r5 => ?_)
    refine j_icmp_ne (tgt := 283) (pc' := 279) dX12_costOf_276 (by decide) rfl r4 r5 (fun c6 => ?_) (fun c6 => ?_)
    · rw [if_neg c6] at H
      refine j_iconst (pc' := 284) dX12_costOf_283 rfl ?_
      exact tX12_costOf_284 _ _ hk193 hk208 x0 x1 x2 x3 x6 x7 x8 0 v3 h rx2 rx3 rx6 rx7 rx8 ⟨by decide, by decide⟩ r3 H
    · rw [if_pos c6] at H
      refine j_iconst (pc' := 280) dX12_costOf_279 rfl ?_
      refine j_goto (tgt := 284) dX12_costOf_280 (by decide) ?_
      exact tX12_costOf_284 _ _ hk193 hk208 x0 x1 x2 x3 x6 x7 x8 1 v3 h rx2 rx3 rx6 rx7 rx8 ⟨by decide, by decide⟩ r3 H
noncomputable def fX12_costOf_208 (k193 : Nat → Nat → Int → Int → Int → Hp → Option (Int × Hp)) : Nat → Nat → Nat → Int → Int → Int → Int → Hp → Option (Int × Hp)
  | 0, _, _, _, _, _, _, _ => none
  | n + 1, x0, x1, x2, x3, x6, x7, h => (cob h 11 x0).bind fun _ => (fX12_n x0 h).bind fun p2 => if p2.1 ≤ x7 then (fX12_costOf_304 k193 x0 x1 x2 x3 x6 p2.2) else ((c32 ((12 * x6) + x7)).bind fun _ => if x2 = 2 then ((ald p2.2 0 x1 x6).bind fun v6 => (ald p2.2 0 x1 x7).bind fun v7 => if v6 = v7 then ((getR p2.2 11 x0 23).bind fun v9 => (ald p2.2 0 v9 ((12 * x6) + x7)).bind fun v10 => fX12_costOf_256 k193 (fX12_costOf_208 k193 n) x0 x1 x2 (max x3 v10) x6 x7 ((12 * x6) + x7) p2.2) else (fX12_costOf_256 k193 (fX12_costOf_208 k193 n) x0 x1 x2 x3 x6 x7 ((12 * x6) + x7) p2.2)) else (fX12_costOf_256 k193 (fX12_costOf_208 k193 n) x0 x1 x2 x3 x6 x7 ((12 * x6) + x7) p2.2))
theorem tX12_costOf_208 {L : Nat} {xs : Nat → Int32} {l : Launch} {res : Int × Hp} (k193 : Nat → Nat → Int → Int → Int → Hp → Option (Int × Hp)) (hk193 : ∀ (x0 : Nat) (x1 : Nat) (x2 : Int) (x3 : Int) (x6 : Int) (h : Hp), R32 x2 → R64 x3 → R32 x6 → k193 x0 x1 x2 x3 x6 h = some res → J L xs l RX12 cX12_costOf 12 false 4 (QL res) 0 0 193 [(0, vr x0), (1, vr x1), (2, vi x2), (3, vl x3), (6, vi x6)] [] h) : ∀ (n : Nat) (x0 : Nat) (x1 : Nat) (x2 : Int) (x3 : Int) (x6 : Int) (x7 : Int) (h : Hp), R32 x2 → R64 x3 → R32 x6 → R32 x7 → fX12_costOf_208 k193 n x0 x1 x2 x3 x6 x7 h = some res → J L xs l RX12 cX12_costOf 12 false 4 (QL res) 0 0 208 [(0, vr x0), (1, vr x1), (2, vi x2), (3, vl x3), (6, vi x6), (7, vi x7)] [] h := by
  intro n
  induction n with
  | zero => intro x0 x1 x2 x3 x6 x7 h rx2 rx3 rx6 rx7 H; cases H
  | succ n ih =>
    intro x0 x1 x2 x3 x6 x7 h rx2 rx3 rx6 rx7 H
    rw [fX12_costOf_208] at H
    refine j_iload (pc' := 210) dX12_costOf_208 rfl 5 rfl ?_
    refine j_aload_n (i := 0) (pc' := 211) dX12_costOf_210 rfl rfl 0 rfl ?_
    obtain ⟨u1, e1, H⟩ := bs H
    obtain ⟨p2, e2, H⟩ := bs H
    refine j_cVi (y := yX12_n) (dY := 1) (vs := []) (st := [vi x7]) (q := x0) (pc' := 214) dX12_costOf_211 rfl ymX12_n yvX12_n ml_X12_90 (by decide) rfl (Nat.le_of_ble_eq_true rfl) (Nat.le_of_ble_eq_true rfl) e1 (tX12_n x0 h e2) (fun r2 z2 => ?_)
    refine j_icmp_ge (tgt := 304) (pc' := 217) dX12_costOf_214 (by decide) rfl rx7 r2 (fun c3 => ?_) (fun c3 => ?_)
    · rw [if_pos c3] at H
      refine j_sub (lv' := [(0, vr x0), (1, vr x1), (2, vi x2), (3, vl x3), (6, vi x6)]) [0, 1, 2, 3, 4] rfl ?_
      exact tX12_costOf_304 _ hk193 x0 x1 x2 x3 x6 p2.2 rx2 rx3 rx6 H
    · rw [if_neg c3] at H
      refine j_bipush (pc' := 219) dX12_costOf_217 rfl (by decide +kernel) ?_
      refine j_iload (pc' := 221) dX12_costOf_219 rfl 4 rfl ?_
      refine j_imul (pc' := 222) dX12_costOf_221 rfl ?_
      refine j_iload (pc' := 224) dX12_costOf_222 rfl 5 rfl ?_
      refine j_iadd (pc' := 225) dX12_costOf_224 rfl ?_
      obtain ⟨u4, e4, H⟩ := bs H
      have r4 := c32_R e4
      refine j_istore (lv' := [(0, vr x0), (1, vr x1), (2, vi x2), (3, vl x3), (6, vi x6), (7, vi x7), (8, vi ((12 * x6) + x7))]) (pc' := 227) dX12_costOf_225 rfl (by decide) [1, 2, 3, 4, 5, 6, 0] rfl ?_
      refine j_iload_n (i := 2) (pc' := 228) dX12_costOf_227 rfl rfl 2 rfl ?_
      refine j_iconst (pc' := 229) dX12_costOf_228 rfl ?_
      refine j_icmp_ne (tgt := 256) (pc' := 232) dX12_costOf_229 (by decide) rfl rx2 ⟨by decide, by decide⟩ (fun c5 => ?_) (fun c5 => ?_)
      · rw [if_neg c5] at H
        exact tX12_costOf_256 _ _ hk193 ih x0 x1 x2 x3 x6 x7 ((12 * x6) + x7) p2.2 rx2 rx3 rx6 rx7 r4 H
      · rw [if_pos c5] at H
        refine j_aload_n (i := 1) (pc' := 233) dX12_costOf_232 rfl rfl 1 rfl ?_
        refine j_iload (pc' := 235) dX12_costOf_233 rfl 4 rfl ?_
        obtain ⟨v6, e6, H⟩ := bs H
        refine j_iald (pc' := 236) dX12_costOf_235 rfl e6 (fun r6 => ?_)
        refine j_aload_n (i := 1) (pc' := 237) dX12_costOf_236 rfl rfl 1 rfl ?_
        refine j_iload (pc' := 239) dX12_costOf_237 rfl 5 rfl ?_
        obtain ⟨v7, e7, H⟩ := bs H
        refine j_iald (pc' := 240) dX12_costOf_239 rfl e7 (fun r7 => ?_)
        refine j_icmp_ne (tgt := 256) (pc' := 243) dX12_costOf_240 (by decide) rfl r6 r7 (fun c8 => ?_) (fun c8 => ?_)
        · rw [if_neg c8] at H
          exact tX12_costOf_256 _ _ hk193 ih x0 x1 x2 x3 x6 x7 ((12 * x6) + x7) p2.2 rx2 rx3 rx6 rx7 r4 H
        · rw [if_pos c8] at H
          refine j_lload_n (i := 3) (pc' := 244) dX12_costOf_243 rfl rfl 3 rfl ?_
          refine j_aload_n (i := 0) (pc' := 245) dX12_costOf_244 rfl rfl 0 rfl ?_
          obtain ⟨v9, e9, H⟩ := bs H
          refine j_getR (pc' := 248) dX12_costOf_245 rfl fl_X12_67 e9 (fun r9 => ?_)
          refine j_iload (pc' := 250) dX12_costOf_248 rfl 6 rfl ?_
          obtain ⟨v10, e10, H⟩ := bs H
          refine j_iald (pc' := 251) dX12_costOf_250 rfl e10 (fun r10 => ?_)
          refine j_i2l (pc' := 252) dX12_costOf_251 rfl r10 ?_
          refine j_mmaxl (pc' := 255) dX12_costOf_252 rfl ml_X12_141 (by decide) (Nat.le_of_ble_eq_true rfl) rx3 (R32_l r10) ?_
          refine j_lstore_n (i := 3) (lv' := [(0, vr x0), (1, vr x1), (2, vi x2), (3, vl (max x3 v10)), (6, vi x6), (7, vi x7), (8, vi ((12 * x6) + x7))]) (pc' := 256) dX12_costOf_255 rfl rfl (by decide) [1, 2, 3, 0, 4, 5, 6] rfl ?_
          exact tX12_costOf_256 _ _ hk193 ih x0 x1 x2 (max x3 v10) x6 x7 ((12 * x6) + x7) p2.2 rx2 (R64_max rx3 (R32_l r10)) rx6 rx7 r4 H
noncomputable def fX12_costOf_193 : Nat → Nat → Nat → Int → Int → Int → Hp → Option (Int × Hp)
  | 0, _, _, _, _, _, _ => none
  | n + 1, x0, x1, x2, x3, x6, h => (cob h 11 x0).bind fun _ => (fX12_n x0 h).bind fun p2 => if p2.1 ≤ x6 then (fX12_costOf_310 x3 p2.2) else ((c32 (x6 + 1)).bind fun _ => fX12_costOf_208 (fX12_costOf_193 n) FU x0 x1 x2 x3 x6 (x6 + 1) p2.2)
theorem tX12_costOf_193 {L : Nat} {xs : Nat → Int32} {l : Launch} {res : Int × Hp} : ∀ (n : Nat) (x0 : Nat) (x1 : Nat) (x2 : Int) (x3 : Int) (x6 : Int) (h : Hp), R32 x2 → R64 x3 → R32 x6 → fX12_costOf_193 n x0 x1 x2 x3 x6 h = some res → J L xs l RX12 cX12_costOf 12 false 4 (QL res) 0 0 193 [(0, vr x0), (1, vr x1), (2, vi x2), (3, vl x3), (6, vi x6)] [] h := by
  intro n
  induction n with
  | zero => intro x0 x1 x2 x3 x6 h rx2 rx3 rx6 H; cases H
  | succ n ih =>
    intro x0 x1 x2 x3 x6 h rx2 rx3 rx6 H
    rw [fX12_costOf_193] at H
    refine j_iload (pc' := 195) dX12_costOf_193 rfl 4 rfl ?_
    refine j_aload_n (i := 0) (pc' := 196) dX12_costOf_195 rfl rfl 0 rfl ?_
    obtain ⟨u1, e1, H⟩ := bs H
    obtain ⟨p2, e2, H⟩ := bs H
    refine j_cVi (y := yX12_n) (dY := 1) (vs := []) (st := [vi x6]) (q := x0) (pc' := 199) dX12_costOf_196 rfl ymX12_n yvX12_n ml_X12_90 (by decide) rfl (Nat.le_of_ble_eq_true rfl) (Nat.le_of_ble_eq_true rfl) e1 (tX12_n x0 h e2) (fun r2 z2 => ?_)
    refine j_icmp_ge (tgt := 310) (pc' := 202) dX12_costOf_199 (by decide) rfl rx6 r2 (fun c3 => ?_) (fun c3 => ?_)
    · rw [if_pos c3] at H
      refine j_sub (lv' := [(3, vl x3)]) [3] rfl ?_
      exact tX12_costOf_310   x3 p2.2 rx3 H
    · rw [if_neg c3] at H
      refine j_iload (pc' := 204) dX12_costOf_202 rfl 4 rfl ?_
      refine j_iconst (pc' := 205) dX12_costOf_204 rfl ?_
      refine j_iadd (pc' := 206) dX12_costOf_205 rfl ?_
      obtain ⟨u4, e4, H⟩ := bs H
      have r4 := c32_R e4
      refine j_istore (lv' := [(0, vr x0), (1, vr x1), (2, vi x2), (3, vl x3), (6, vi x6), (7, vi (x6 + 1))]) (pc' := 208) dX12_costOf_206 rfl (by decide) [1, 2, 3, 4, 5, 0] rfl ?_
      exact tX12_costOf_208 _ ih FU x0 x1 x2 x3 x6 (x6 + 1) p2.2 rx2 rx3 rx6 r4 H
noncomputable def fX12_costOf_187 (x3 : Int) (h : Hp) : Option (Int × Hp) :=
  fX12_costOf_310 x3 h
theorem tX12_costOf_187 {L : Nat} {xs : Nat → Int32} {l : Launch} {res : Int × Hp} (x3 : Int) (h : Hp) (rx3 : R64 x3) (H : fX12_costOf_187 x3 h = some res) : J L xs l RX12 cX12_costOf 12 false 4 (QL res) 0 0 187 [(3, vl x3)] [] h := by
  unfold fX12_costOf_187 at H
  refine j_goto (tgt := 310) dX12_costOf_187 (by decide) ?_
  exact tX12_costOf_310   x3 h rx3 H
noncomputable def fX12_costOf_156 : Nat → Nat → Nat → Int → Int → Int → Hp → Option (Int × Hp)
  | 0, _, _, _, _, _, _ => none
  | n + 1, x0, x1, x3, x5, x6, h => if x5 ≤ x6 then (fX12_costOf_187 x3 h) else ((cob h 11 x0).bind fun _ => (fX12_middleOf x0 x1 x6 h).bind fun p3 => (cob p3.2 11 x0).bind fun _ => (fX12_sumTo x0 x1 x6 p3.1 p3.2).bind fun p5 => (c64 (x3 + p5.1)).bind fun _ => (c32 (x6 + 1)).bind fun _ => fX12_costOf_156 n x0 x1 (x3 + p5.1) x5 (x6 + 1) p5.2)
theorem tX12_costOf_156 {L : Nat} {xs : Nat → Int32} {l : Launch} {res : Int × Hp} : ∀ (n : Nat) (x0 : Nat) (x1 : Nat) (x3 : Int) (x5 : Int) (x6 : Int) (h : Hp), R64 x3 → R32 x5 → R32 x6 → fX12_costOf_156 n x0 x1 x3 x5 x6 h = some res → J L xs l RX12 cX12_costOf 12 false 4 (QL res) 0 0 156 [(0, vr x0), (1, vr x1), (3, vl x3), (5, vi x5), (6, vi x6)] [] h := by
  intro n
  induction n with
  | zero => intro x0 x1 x3 x5 x6 h rx3 rx5 rx6 H; cases H
  | succ n ih =>
    intro x0 x1 x3 x5 x6 h rx3 rx5 rx6 H
    rw [fX12_costOf_156] at H
    refine j_iload (pc' := 158) dX12_costOf_156 rfl 4 rfl ?_
    refine j_iload (pc' := 160) dX12_costOf_158 rfl 3 rfl ?_
    refine j_icmp_ge (tgt := 187) (pc' := 163) dX12_costOf_160 (by decide) rfl rx6 rx5 (fun c1 => ?_) (fun c1 => ?_)
    · rw [if_pos c1] at H
      refine j_sub (lv' := [(3, vl x3)]) [2] rfl ?_
      exact tX12_costOf_187   x3 h rx3 H
    · rw [if_neg c1] at H
      refine j_lload_n (i := 3) (pc' := 164) dX12_costOf_163 rfl rfl 2 rfl ?_
      refine j_aload_n (i := 0) (pc' := 165) dX12_costOf_164 rfl rfl 0 rfl ?_
      refine j_aload_n (i := 1) (pc' := 166) dX12_costOf_165 rfl rfl 1 rfl ?_
      refine j_iload (pc' := 168) dX12_costOf_166 rfl 4 rfl ?_
      refine j_aload_n (i := 0) (pc' := 169) dX12_costOf_168 rfl rfl 0 rfl ?_
      refine j_aload_n (i := 1) (pc' := 170) dX12_costOf_169 rfl rfl 1 rfl ?_
      refine j_iload (pc' := 172) dX12_costOf_170 rfl 4 rfl ?_
      obtain ⟨u2, e2, H⟩ := bs H
      obtain ⟨p3, e3, H⟩ := bs H
      refine j_cVi (y := yX12_middleOf) (dY := 3) (vs := [vr x1, vi x6]) (st := [vi x6, vr x1, vr x0, vl x3]) (q := x0) (pc' := 175) dX12_costOf_172 rfl ymX12_middleOf yvX12_middleOf ml_X12_137 (by decide) rfl (Nat.le_of_ble_eq_true rfl) (Nat.le_of_ble_eq_true rfl) e2 (tX12_middleOf x0 x1 x6 h rx6 e3) (fun r3 z3 => ?_)
      obtain ⟨u4, e4, H⟩ := bs H
      obtain ⟨p5, e5, H⟩ := bs H
      refine j_cVi (y := yX12_sumTo) (dY := 2) (vs := [vr x1, vi x6, vi p3.1]) (st := [vl x3]) (q := x0) (pc' := 178) dX12_costOf_175 rfl ymX12_sumTo yvX12_sumTo ml_X12_129 (by decide) rfl (Nat.le_of_ble_eq_true rfl) (Nat.le_of_ble_eq_true rfl) e4 (tX12_sumTo x0 x1 x6 p3.1 p3.2 rx6 r3 e5) (fun r5 z5 => ?_)
      refine j_i2l (pc' := 179) dX12_costOf_178 rfl r5 ?_
      refine j_ladd (pc' := 180) dX12_costOf_179 rfl ?_
      obtain ⟨u6, e6, H⟩ := bs H
      have r6 := c64_R e6
      refine j_lstore_n (i := 3) (lv' := [(0, vr x0), (1, vr x1), (3, vl (x3 + p5.1)), (5, vi x5), (6, vi x6)]) (pc' := 181) dX12_costOf_180 rfl rfl (by decide) [1, 2, 0, 3, 4] rfl ?_
      obtain ⟨u7, e7, H⟩ := bs H
      have r7 := c32_R e7
      refine j_iinc (k0 := 4) (lv' := [(0, vr x0), (1, vr x1), (3, vl (x3 + p5.1)), (5, vi x5), (6, vi (x6 + 1))]) (pc' := 184) dX12_costOf_181 rfl rfl (by decide) [1, 2, 3, 4, 0] rfl ?_
      refine j_goto (tgt := 156) dX12_costOf_184 (by decide) ?_
      exact ih x0 x1 (x3 + p5.1) x5 (x6 + 1) p5.2 r6 rx5 r7 H
noncomputable def fX12_costOf_145 (x3 : Int) (h : Hp) : Option (Int × Hp) :=
  fX12_costOf_310 x3 h
theorem tX12_costOf_145 {L : Nat} {xs : Nat → Int32} {l : Launch} {res : Int × Hp} (x3 : Int) (h : Hp) (rx3 : R64 x3) (H : fX12_costOf_145 x3 h = some res) : J L xs l RX12 cX12_costOf 12 false 4 (QL res) 0 0 145 [(3, vl x3)] [] h := by
  unfold fX12_costOf_145 at H
  refine j_goto (tgt := 310) dX12_costOf_145 (by decide) ?_
  exact tX12_costOf_310   x3 h rx3 H
noncomputable def fX12_costOf_126 (k16 : Nat → Nat → Int → Int → Int → Hp → Option (Int × Hp)) (x0 : Nat) (x1 : Nat) (x3 : Int) (x5 : Int) (x6 : Int) (x7 : Int) (x9 : Int) (h : Hp) : Option (Int × Hp) :=
  (cnz x9).bind fun _ => (c64 (x3 + (x7 * (bDiv 27720 x9)))).bind fun _ => (c32 (x6 + 1)).bind fun _ => k16 x0 x1 (x3 + (x7 * (bDiv 27720 x9))) x5 (x6 + 1) h
theorem tX12_costOf_126 {L : Nat} {xs : Nat → Int32} {l : Launch} {res : Int × Hp} (k16 : Nat → Nat → Int → Int → Int → Hp → Option (Int × Hp)) (hk16 : ∀ (x0 : Nat) (x1 : Nat) (x3 : Int) (x5 : Int) (x6 : Int) (h : Hp), R64 x3 → R32 x5 → R32 x6 → k16 x0 x1 x3 x5 x6 h = some res → J L xs l RX12 cX12_costOf 12 false 4 (QL res) 0 0 16 [(0, vr x0), (1, vr x1), (3, vl x3), (5, vi x5), (6, vi x6)] [] h) (x0 : Nat) (x1 : Nat) (x3 : Int) (x5 : Int) (x6 : Int) (x7 : Int) (x9 : Int) (h : Hp) (rx3 : R64 x3) (rx5 : R32 x5) (rx6 : R32 x6) (rx7 : R64 x7) (rx9 : R32 x9) (H : fX12_costOf_126 k16 x0 x1 x3 x5 x6 x7 x9 h = some res) : J L xs l RX12 cX12_costOf 12 false 4 (QL res) 0 0 126 [(0, vr x0), (1, vr x1), (3, vl x3), (5, vi x5), (6, vi x6), (7, vl x7), (9, vi x9)] [] h := by
  unfold fX12_costOf_126 at H
  refine j_lload_n (i := 3) (pc' := 127) dX12_costOf_126 rfl rfl 2 rfl ?_
  refine j_lload (pc' := 129) dX12_costOf_127 rfl 5 rfl ?_
  refine j_sipush (pc' := 132) dX12_costOf_129 rfl (by decide +kernel) ?_
  refine j_iload (pc' := 134) dX12_costOf_132 rfl 6 rfl ?_
  obtain ⟨u1, e1, H⟩ := bs H
  refine j_idiv (pc' := 135) dX12_costOf_134 rfl rx9 (cnz_R e1) ?_
  refine j_i2l (pc' := 136) dX12_costOf_135 rfl (R32_to _) ?_
  refine j_lmul (pc' := 137) dX12_costOf_136 rfl ?_
  refine j_ladd (pc' := 138) dX12_costOf_137 rfl ?_
  obtain ⟨u2, e2, H⟩ := bs H
  have r2 := c64_R e2
  refine j_lstore_n (i := 3) (lv' := [(0, vr x0), (1, vr x1), (3, vl (x3 + (x7 * (bDiv 27720 x9)))), (5, vi x5), (6, vi x6), (7, vl x7), (9, vi x9)]) (pc' := 139) dX12_costOf_138 rfl rfl (by decide) [1, 2, 0, 3, 4, 5, 6] rfl ?_
  obtain ⟨u3, e3, H⟩ := bs H
  have r3 := c32_R e3
  refine j_iinc (k0 := 4) (lv' := [(0, vr x0), (1, vr x1), (3, vl (x3 + (x7 * (bDiv 27720 x9)))), (5, vi x5), (6, vi (x6 + 1)), (7, vl x7), (9, vi x9)]) (pc' := 142) dX12_costOf_139 rfl rfl (by decide) [1, 2, 3, 4, 0, 5, 6] rfl ?_
  refine j_goto (tgt := 16) dX12_costOf_142 (by decide) ?_
  refine j_sub (lv' := [(0, vr x0), (1, vr x1), (3, vl (x3 + (x7 * (bDiv 27720 x9)))), (5, vi x5), (6, vi (x6 + 1))]) [0, 1, 2, 3, 4] rfl ?_
  exact hk16 x0 x1 (x3 + (x7 * (bDiv 27720 x9))) x5 (x6 + 1) h r2 rx5 r3 H
noncomputable def fX12_costOf_120 (k16 : Nat → Nat → Int → Int → Int → Hp → Option (Int × Hp)) (k32 : Nat → Nat → Int → Int → Int → Int → Int → Int → Hp → Option (Int × Hp)) (x0 : Nat) (x1 : Nat) (x3 : Int) (x5 : Int) (x6 : Int) (x7 : Int) (x9 : Int) (x10 : Int) (h : Hp) : Option (Int × Hp) :=
  (c32 (x10 + 1)).bind fun _ => k32 x0 x1 x3 x5 x6 x7 x9 (x10 + 1) h
theorem tX12_costOf_120 {L : Nat} {xs : Nat → Int32} {l : Launch} {res : Int × Hp} (k16 : Nat → Nat → Int → Int → Int → Hp → Option (Int × Hp)) (k32 : Nat → Nat → Int → Int → Int → Int → Int → Int → Hp → Option (Int × Hp)) (hk16 : ∀ (x0 : Nat) (x1 : Nat) (x3 : Int) (x5 : Int) (x6 : Int) (h : Hp), R64 x3 → R32 x5 → R32 x6 → k16 x0 x1 x3 x5 x6 h = some res → J L xs l RX12 cX12_costOf 12 false 4 (QL res) 0 0 16 [(0, vr x0), (1, vr x1), (3, vl x3), (5, vi x5), (6, vi x6)] [] h) (hk32 : ∀ (x0 : Nat) (x1 : Nat) (x3 : Int) (x5 : Int) (x6 : Int) (x7 : Int) (x9 : Int) (x10 : Int) (h : Hp), R64 x3 → R32 x5 → R32 x6 → R64 x7 → R32 x9 → R32 x10 → k32 x0 x1 x3 x5 x6 x7 x9 x10 h = some res → J L xs l RX12 cX12_costOf 12 false 4 (QL res) 0 0 32 [(0, vr x0), (1, vr x1), (3, vl x3), (5, vi x5), (6, vi x6), (7, vl x7), (9, vi x9), (10, vi x10)] [] h) (x0 : Nat) (x1 : Nat) (x3 : Int) (x5 : Int) (x6 : Int) (x7 : Int) (x9 : Int) (x10 : Int) (h : Hp) (rx3 : R64 x3) (rx5 : R32 x5) (rx6 : R32 x6) (rx7 : R64 x7) (rx9 : R32 x9) (rx10 : R32 x10) (H : fX12_costOf_120 k16 k32 x0 x1 x3 x5 x6 x7 x9 x10 h = some res) : J L xs l RX12 cX12_costOf 12 false 4 (QL res) 0 0 120 [(0, vr x0), (1, vr x1), (3, vl x3), (5, vi x5), (6, vi x6), (7, vl x7), (9, vi x9), (10, vi x10)] [] h := by
  unfold fX12_costOf_120 at H
  obtain ⟨u1, e1, H⟩ := bs H
  have r1 := c32_R e1
  refine j_iinc (k0 := 7) (lv' := [(0, vr x0), (1, vr x1), (3, vl x3), (5, vi x5), (6, vi x6), (7, vl x7), (9, vi x9), (10, vi (x10 + 1))]) (pc' := 123) dX12_costOf_120 rfl rfl (by decide) [1, 2, 3, 4, 5, 6, 7, 0] rfl ?_
  refine j_goto (tgt := 32) dX12_costOf_123 (by decide) ?_
  exact hk32 x0 x1 x3 x5 x6 x7 x9 (x10 + 1) h rx3 rx5 rx6 rx7 rx9 r1 H
noncomputable def fX12_costOf_114 (k16 : Nat → Nat → Int → Int → Int → Hp → Option (Int × Hp)) (k32 : Nat → Nat → Int → Int → Int → Int → Int → Int → Hp → Option (Int × Hp)) (k62 : Nat → Nat → Int → Int → Int → Int → Int → Int → Int → Hp → Option (Int × Hp)) (x0 : Nat) (x1 : Nat) (x3 : Int) (x5 : Int) (x6 : Int) (x7 : Int) (x9 : Int) (x10 : Int) (x11 : Int) (h : Hp) : Option (Int × Hp) :=
  (c32 (x11 + 1)).bind fun _ => k62 x0 x1 x3 x5 x6 x7 x9 x10 (x11 + 1) h
theorem tX12_costOf_114 {L : Nat} {xs : Nat → Int32} {l : Launch} {res : Int × Hp} (k16 : Nat → Nat → Int → Int → Int → Hp → Option (Int × Hp)) (k32 : Nat → Nat → Int → Int → Int → Int → Int → Int → Hp → Option (Int × Hp)) (k62 : Nat → Nat → Int → Int → Int → Int → Int → Int → Int → Hp → Option (Int × Hp)) (hk16 : ∀ (x0 : Nat) (x1 : Nat) (x3 : Int) (x5 : Int) (x6 : Int) (h : Hp), R64 x3 → R32 x5 → R32 x6 → k16 x0 x1 x3 x5 x6 h = some res → J L xs l RX12 cX12_costOf 12 false 4 (QL res) 0 0 16 [(0, vr x0), (1, vr x1), (3, vl x3), (5, vi x5), (6, vi x6)] [] h) (hk32 : ∀ (x0 : Nat) (x1 : Nat) (x3 : Int) (x5 : Int) (x6 : Int) (x7 : Int) (x9 : Int) (x10 : Int) (h : Hp), R64 x3 → R32 x5 → R32 x6 → R64 x7 → R32 x9 → R32 x10 → k32 x0 x1 x3 x5 x6 x7 x9 x10 h = some res → J L xs l RX12 cX12_costOf 12 false 4 (QL res) 0 0 32 [(0, vr x0), (1, vr x1), (3, vl x3), (5, vi x5), (6, vi x6), (7, vl x7), (9, vi x9), (10, vi x10)] [] h) (hk62 : ∀ (x0 : Nat) (x1 : Nat) (x3 : Int) (x5 : Int) (x6 : Int) (x7 : Int) (x9 : Int) (x10 : Int) (x11 : Int) (h : Hp), R64 x3 → R32 x5 → R32 x6 → R64 x7 → R32 x9 → R32 x10 → R32 x11 → k62 x0 x1 x3 x5 x6 x7 x9 x10 x11 h = some res → J L xs l RX12 cX12_costOf 12 false 4 (QL res) 0 0 62 [(0, vr x0), (1, vr x1), (3, vl x3), (5, vi x5), (6, vi x6), (7, vl x7), (9, vi x9), (10, vi x10), (11, vi x11)] [] h) (x0 : Nat) (x1 : Nat) (x3 : Int) (x5 : Int) (x6 : Int) (x7 : Int) (x9 : Int) (x10 : Int) (x11 : Int) (h : Hp) (rx3 : R64 x3) (rx5 : R32 x5) (rx6 : R32 x6) (rx7 : R64 x7) (rx9 : R32 x9) (rx10 : R32 x10) (rx11 : R32 x11) (H : fX12_costOf_114 k16 k32 k62 x0 x1 x3 x5 x6 x7 x9 x10 x11 h = some res) : J L xs l RX12 cX12_costOf 12 false 4 (QL res) 0 0 114 [(0, vr x0), (1, vr x1), (3, vl x3), (5, vi x5), (6, vi x6), (7, vl x7), (9, vi x9), (10, vi x10), (11, vi x11)] [] h := by
  unfold fX12_costOf_114 at H
  obtain ⟨u1, e1, H⟩ := bs H
  have r1 := c32_R e1
  refine j_iinc (k0 := 8) (lv' := [(0, vr x0), (1, vr x1), (3, vl x3), (5, vi x5), (6, vi x6), (7, vl x7), (9, vi x9), (10, vi x10), (11, vi (x11 + 1))]) (pc' := 117) dX12_costOf_114 rfl rfl (by decide) [1, 2, 3, 4, 5, 6, 7, 8, 0] rfl ?_
  refine j_goto (tgt := 62) dX12_costOf_117 (by decide) ?_
  exact hk62 x0 x1 x3 x5 x6 x7 x9 x10 (x11 + 1) h rx3 rx5 rx6 rx7 rx9 rx10 r1 H
noncomputable def fX12_costOf_62 (k16 : Nat → Nat → Int → Int → Int → Hp → Option (Int × Hp)) (k32 : Nat → Nat → Int → Int → Int → Int → Int → Int → Hp → Option (Int × Hp)) : Nat → Nat → Nat → Int → Int → Int → Int → Int → Int → Int → Hp → Option (Int × Hp)
  | 0, _, _, _, _, _, _, _, _, _, _ => none
  | n + 1, x0, x1, x3, x5, x6, x7, x9, x10, x11, h => (cob h 11 x0).bind fun _ => (fX12_n x0 h).bind fun p2 => if p2.1 ≤ x11 then (fX12_costOf_120 k16 k32 x0 x1 x3 x5 x6 x7 x9 x10 p2.2) else ((ald p2.2 0 x1 x11).bind fun v4 => if v4 = x6 then ((getR p2.2 11 x0 23).bind fun v6 => (ald p2.2 0 v6 ((12 * x10) + x11)).bind fun v7 => (getR p2.2 11 x0 23).bind fun v8 => (ald p2.2 0 v8 ((12 * x10) + x11)).bind fun v9 => (c64 (x7 + (v7 * v9))).bind fun _ => fX12_costOf_114 k16 k32 (fX12_costOf_62 k16 k32 n) x0 x1 x3 x5 x6 (x7 + (v7 * v9)) x9 x10 x11 p2.2) else (fX12_costOf_114 k16 k32 (fX12_costOf_62 k16 k32 n) x0 x1 x3 x5 x6 x7 x9 x10 x11 p2.2))
theorem tX12_costOf_62 {L : Nat} {xs : Nat → Int32} {l : Launch} {res : Int × Hp} (k16 : Nat → Nat → Int → Int → Int → Hp → Option (Int × Hp)) (k32 : Nat → Nat → Int → Int → Int → Int → Int → Int → Hp → Option (Int × Hp)) (hk16 : ∀ (x0 : Nat) (x1 : Nat) (x3 : Int) (x5 : Int) (x6 : Int) (h : Hp), R64 x3 → R32 x5 → R32 x6 → k16 x0 x1 x3 x5 x6 h = some res → J L xs l RX12 cX12_costOf 12 false 4 (QL res) 0 0 16 [(0, vr x0), (1, vr x1), (3, vl x3), (5, vi x5), (6, vi x6)] [] h) (hk32 : ∀ (x0 : Nat) (x1 : Nat) (x3 : Int) (x5 : Int) (x6 : Int) (x7 : Int) (x9 : Int) (x10 : Int) (h : Hp), R64 x3 → R32 x5 → R32 x6 → R64 x7 → R32 x9 → R32 x10 → k32 x0 x1 x3 x5 x6 x7 x9 x10 h = some res → J L xs l RX12 cX12_costOf 12 false 4 (QL res) 0 0 32 [(0, vr x0), (1, vr x1), (3, vl x3), (5, vi x5), (6, vi x6), (7, vl x7), (9, vi x9), (10, vi x10)] [] h) : ∀ (n : Nat) (x0 : Nat) (x1 : Nat) (x3 : Int) (x5 : Int) (x6 : Int) (x7 : Int) (x9 : Int) (x10 : Int) (x11 : Int) (h : Hp), R64 x3 → R32 x5 → R32 x6 → R64 x7 → R32 x9 → R32 x10 → R32 x11 → fX12_costOf_62 k16 k32 n x0 x1 x3 x5 x6 x7 x9 x10 x11 h = some res → J L xs l RX12 cX12_costOf 12 false 4 (QL res) 0 0 62 [(0, vr x0), (1, vr x1), (3, vl x3), (5, vi x5), (6, vi x6), (7, vl x7), (9, vi x9), (10, vi x10), (11, vi x11)] [] h := by
  intro n
  induction n with
  | zero => intro x0 x1 x3 x5 x6 x7 x9 x10 x11 h rx3 rx5 rx6 rx7 rx9 rx10 rx11 H; cases H
  | succ n ih =>
    intro x0 x1 x3 x5 x6 x7 x9 x10 x11 h rx3 rx5 rx6 rx7 rx9 rx10 rx11 H
    rw [fX12_costOf_62] at H
    refine j_iload (pc' := 64) dX12_costOf_62 rfl 8 rfl ?_
    refine j_aload_n (i := 0) (pc' := 65) dX12_costOf_64 rfl rfl 0 rfl ?_
    obtain ⟨u1, e1, H⟩ := bs H
    obtain ⟨p2, e2, H⟩ := bs H
    refine j_cVi (y := yX12_n) (dY := 1) (vs := []) (st := [vi x11]) (q := x0) (pc' := 68) dX12_costOf_65 rfl ymX12_n yvX12_n ml_X12_90 (by decide) rfl (Nat.le_of_ble_eq_true rfl) (Nat.le_of_ble_eq_true rfl) e1 (tX12_n x0 h e2) (fun r2 z2 => ?_)
    refine j_icmp_ge (tgt := 120) (pc' := 71) dX12_costOf_68 (by decide) rfl rx11 r2 (fun c3 => ?_) (fun c3 => ?_)
    · rw [if_pos c3] at H
      refine j_sub (lv' := [(0, vr x0), (1, vr x1), (3, vl x3), (5, vi x5), (6, vi x6), (7, vl x7), (9, vi x9), (10, vi x10)]) [0, 1, 2, 3, 4, 5, 6, 7] rfl ?_
      exact tX12_costOf_120 _ _ hk16 hk32 x0 x1 x3 x5 x6 x7 x9 x10 p2.2 rx3 rx5 rx6 rx7 rx9 rx10 H
    · rw [if_neg c3] at H
      refine j_aload_n (i := 1) (pc' := 72) dX12_costOf_71 rfl rfl 1 rfl ?_
      refine j_iload (pc' := 74) dX12_costOf_72 rfl 8 rfl ?_
      obtain ⟨v4, e4, H⟩ := bs H
      refine j_iald (pc' := 75) dX12_costOf_74 rfl e4 (fun r4 => ?_)
      refine j_iload (pc' := 77) dX12_costOf_75 rfl 4 rfl ?_
      refine j_icmp_ne (tgt := 114) (pc' := 80) dX12_costOf_77 (by decide) rfl r4 rx6 (fun c5 => ?_) (fun c5 => ?_)
      · rw [if_neg c5] at H
        exact tX12_costOf_114 _ _ _ hk16 hk32 ih x0 x1 x3 x5 x6 x7 x9 x10 x11 p2.2 rx3 rx5 rx6 rx7 rx9 rx10 rx11 H
      · rw [if_pos c5] at H
        refine j_lload (pc' := 82) dX12_costOf_80 rfl 5 rfl ?_
        refine j_aload_n (i := 0) (pc' := 83) dX12_costOf_82 rfl rfl 0 rfl ?_
        obtain ⟨v6, e6, H⟩ := bs H
        refine j_getR (pc' := 86) dX12_costOf_83 rfl fl_X12_67 e6 (fun r6 => ?_)
        refine j_bipush (pc' := 88) dX12_costOf_86 rfl (by decide +kernel) ?_
        refine j_iload (pc' := 90) dX12_costOf_88 rfl 7 rfl ?_
        refine j_imul (pc' := 91) dX12_costOf_90 rfl ?_
        refine j_iload (pc' := 93) dX12_costOf_91 rfl 8 rfl ?_
        refine j_iadd (pc' := 94) dX12_costOf_93 rfl ?_
        obtain ⟨v7, e7, H⟩ := bs H
        refine j_iald (pc' := 95) dX12_costOf_94 rfl e7 (fun r7 => ?_)
        refine j_i2l (pc' := 96) dX12_costOf_95 rfl r7 ?_
        refine j_aload_n (i := 0) (pc' := 97) dX12_costOf_96 rfl rfl 0 rfl ?_
        obtain ⟨v8, e8, H⟩ := bs H
        refine j_getR (pc' := 100) dX12_costOf_97 rfl fl_X12_67 e8 (fun r8 => ?_)
        refine j_bipush (pc' := 102) dX12_costOf_100 rfl (by decide +kernel) ?_
        refine j_iload (pc' := 104) dX12_costOf_102 rfl 7 rfl ?_
        refine j_imul (pc' := 105) dX12_costOf_104 rfl ?_
        refine j_iload (pc' := 107) dX12_costOf_105 rfl 8 rfl ?_
        refine j_iadd (pc' := 108) dX12_costOf_107 rfl ?_
        obtain ⟨v9, e9, H⟩ := bs H
        refine j_iald (pc' := 109) dX12_costOf_108 rfl e9 (fun r9 => ?_)
        refine j_i2l (pc' := 110) dX12_costOf_109 rfl r9 ?_
        refine j_lmul (pc' := 111) dX12_costOf_110 rfl ?_
        refine j_ladd (pc' := 112) dX12_costOf_111 rfl ?_
        obtain ⟨u10, e10, H⟩ := bs H
        have r10 := c64_R e10
        refine j_lstore (lv' := [(0, vr x0), (1, vr x1), (3, vl x3), (5, vi x5), (6, vi x6), (7, vl (x7 + (v7 * v9))), (9, vi x9), (10, vi x10), (11, vi x11)]) (pc' := 114) dX12_costOf_112 rfl (by decide) [1, 2, 3, 4, 5, 0, 6, 7, 8] rfl ?_
        exact tX12_costOf_114 _ _ _ hk16 hk32 ih x0 x1 x3 x5 x6 (x7 + (v7 * v9)) x9 x10 x11 p2.2 rx3 rx5 rx6 r10 rx9 rx10 rx11 H
noncomputable def fX12_costOf_32 (k16 : Nat → Nat → Int → Int → Int → Hp → Option (Int × Hp)) : Nat → Nat → Nat → Int → Int → Int → Int → Int → Int → Hp → Option (Int × Hp)
  | 0, _, _, _, _, _, _, _, _, _ => none
  | n + 1, x0, x1, x3, x5, x6, x7, x9, x10, h => (cob h 11 x0).bind fun _ => (fX12_n x0 h).bind fun p2 => if p2.1 ≤ x10 then (fX12_costOf_126 k16 x0 x1 x3 x5 x6 x7 x9 p2.2) else ((ald p2.2 0 x1 x10).bind fun v4 => if v4 = x6 then ((c32 (x9 + 1)).bind fun _ => (c32 (x10 + 1)).bind fun _ => fX12_costOf_62 k16 (fX12_costOf_32 k16 n) FU x0 x1 x3 x5 x6 x7 (x9 + 1) x10 (x10 + 1) p2.2) else (fX12_costOf_120 k16 (fX12_costOf_32 k16 n) x0 x1 x3 x5 x6 x7 x9 x10 p2.2))
theorem tX12_costOf_32 {L : Nat} {xs : Nat → Int32} {l : Launch} {res : Int × Hp} (k16 : Nat → Nat → Int → Int → Int → Hp → Option (Int × Hp)) (hk16 : ∀ (x0 : Nat) (x1 : Nat) (x3 : Int) (x5 : Int) (x6 : Int) (h : Hp), R64 x3 → R32 x5 → R32 x6 → k16 x0 x1 x3 x5 x6 h = some res → J L xs l RX12 cX12_costOf 12 false 4 (QL res) 0 0 16 [(0, vr x0), (1, vr x1), (3, vl x3), (5, vi x5), (6, vi x6)] [] h) : ∀ (n : Nat) (x0 : Nat) (x1 : Nat) (x3 : Int) (x5 : Int) (x6 : Int) (x7 : Int) (x9 : Int) (x10 : Int) (h : Hp), R64 x3 → R32 x5 → R32 x6 → R64 x7 → R32 x9 → R32 x10 → fX12_costOf_32 k16 n x0 x1 x3 x5 x6 x7 x9 x10 h = some res → J L xs l RX12 cX12_costOf 12 false 4 (QL res) 0 0 32 [(0, vr x0), (1, vr x1), (3, vl x3), (5, vi x5), (6, vi x6), (7, vl x7), (9, vi x9), (10, vi x10)] [] h := by
  intro n
  induction n with
  | zero => intro x0 x1 x3 x5 x6 x7 x9 x10 h rx3 rx5 rx6 rx7 rx9 rx10 H; cases H
  | succ n ih =>
    intro x0 x1 x3 x5 x6 x7 x9 x10 h rx3 rx5 rx6 rx7 rx9 rx10 H
    rw [fX12_costOf_32] at H
    refine j_iload (pc' := 34) dX12_costOf_32 rfl 7 rfl ?_
    refine j_aload_n (i := 0) (pc' := 35) dX12_costOf_34 rfl rfl 0 rfl ?_
    obtain ⟨u1, e1, H⟩ := bs H
    obtain ⟨p2, e2, H⟩ := bs H
    refine j_cVi (y := yX12_n) (dY := 1) (vs := []) (st := [vi x10]) (q := x0) (pc' := 38) dX12_costOf_35 rfl ymX12_n yvX12_n ml_X12_90 (by decide) rfl (Nat.le_of_ble_eq_true rfl) (Nat.le_of_ble_eq_true rfl) e1 (tX12_n x0 h e2) (fun r2 z2 => ?_)
    refine j_icmp_ge (tgt := 126) (pc' := 41) dX12_costOf_38 (by decide) rfl rx10 r2 (fun c3 => ?_) (fun c3 => ?_)
    · rw [if_pos c3] at H
      refine j_sub (lv' := [(0, vr x0), (1, vr x1), (3, vl x3), (5, vi x5), (6, vi x6), (7, vl x7), (9, vi x9)]) [0, 1, 2, 3, 4, 5, 6] rfl ?_
      exact tX12_costOf_126 _ hk16 x0 x1 x3 x5 x6 x7 x9 p2.2 rx3 rx5 rx6 rx7 rx9 H
    · rw [if_neg c3] at H
      refine j_aload_n (i := 1) (pc' := 42) dX12_costOf_41 rfl rfl 1 rfl ?_
      refine j_iload (pc' := 44) dX12_costOf_42 rfl 7 rfl ?_
      obtain ⟨v4, e4, H⟩ := bs H
      refine j_iald (pc' := 45) dX12_costOf_44 rfl e4 (fun r4 => ?_)
      refine j_iload (pc' := 47) dX12_costOf_45 rfl 4 rfl ?_
      refine j_icmp_eq (tgt := 53) (pc' := 50) dX12_costOf_47 (by decide) rfl r4 rx6 (fun c5 => ?_) (fun c5 => ?_)
      · rw [if_pos c5] at H
        obtain ⟨u6, e6, H⟩ := bs H
        have r6 := c32_R e6
        refine j_iinc (k0 := 6) (lv' := [(0, vr x0), (1, vr x1), (3, vl x3), (5, vi x5), (6, vi x6), (7, vl x7), (9, vi (x9 + 1)), (10, vi x10)]) (pc' := 56) dX12_costOf_53 rfl rfl (by decide) [1, 2, 3, 4, 5, 6, 0, 7] rfl ?_
        refine j_iload (pc' := 58) dX12_costOf_56 rfl 7 rfl ?_
        refine j_iconst (pc' := 59) dX12_costOf_58 rfl ?_
        refine j_iadd (pc' := 60) dX12_costOf_59 rfl ?_
        obtain ⟨u7, e7, H⟩ := bs H
        have r7 := c32_R e7
        refine j_istore (lv' := [(0, vr x0), (1, vr x1), (3, vl x3), (5, vi x5), (6, vi x6), (7, vl x7), (9, vi (x9 + 1)), (10, vi x10), (11, vi (x10 + 1))]) (pc' := 62) dX12_costOf_60 rfl (by decide) [1, 2, 3, 4, 5, 6, 7, 8, 0] rfl ?_
        exact tX12_costOf_62 _ _ hk16 ih FU x0 x1 x3 x5 x6 x7 (x9 + 1) x10 (x10 + 1) p2.2 rx3 rx5 rx6 rx7 r6 rx10 r7 H
      · rw [if_neg c5] at H
        refine j_goto (tgt := 120) dX12_costOf_50 (by decide) ?_
        exact tX12_costOf_120 _ _ hk16 ih x0 x1 x3 x5 x6 x7 x9 x10 p2.2 rx3 rx5 rx6 rx7 rx9 rx10 H
noncomputable def fX12_costOf_16 : Nat → Nat → Nat → Int → Int → Int → Hp → Option (Int × Hp)
  | 0, _, _, _, _, _, _ => none
  | n + 1, x0, x1, x3, x5, x6, h => if x5 ≤ x6 then (fX12_costOf_145 x3 h) else (fX12_costOf_32 (fX12_costOf_16 n) FU x0 x1 x3 x5 x6 0 0 0 h)
theorem tX12_costOf_16 {L : Nat} {xs : Nat → Int32} {l : Launch} {res : Int × Hp} : ∀ (n : Nat) (x0 : Nat) (x1 : Nat) (x3 : Int) (x5 : Int) (x6 : Int) (h : Hp), R64 x3 → R32 x5 → R32 x6 → fX12_costOf_16 n x0 x1 x3 x5 x6 h = some res → J L xs l RX12 cX12_costOf 12 false 4 (QL res) 0 0 16 [(0, vr x0), (1, vr x1), (3, vl x3), (5, vi x5), (6, vi x6)] [] h := by
  intro n
  induction n with
  | zero => intro x0 x1 x3 x5 x6 h rx3 rx5 rx6 H; cases H
  | succ n ih =>
    intro x0 x1 x3 x5 x6 h rx3 rx5 rx6 H
    rw [fX12_costOf_16] at H
    refine j_iload (pc' := 18) dX12_costOf_16 rfl 4 rfl ?_
    refine j_iload (pc' := 20) dX12_costOf_18 rfl 3 rfl ?_
    refine j_icmp_ge (tgt := 145) (pc' := 23) dX12_costOf_20 (by decide) rfl rx6 rx5 (fun c1 => ?_) (fun c1 => ?_)
    · rw [if_pos c1] at H
      refine j_sub (lv' := [(3, vl x3)]) [2] rfl ?_
      exact tX12_costOf_145   x3 h rx3 H
    · rw [if_neg c1] at H
      refine j_lconst (z := 0) (pc' := 24) dX12_costOf_23 rfl rfl ?_
      refine j_lstore (lv' := [(0, vr x0), (1, vr x1), (3, vl x3), (5, vi x5), (6, vi x6), (7, vl 0)]) (pc' := 26) dX12_costOf_24 rfl (by decide) [1, 2, 3, 4, 5, 0] rfl ?_
      refine j_iconst (pc' := 27) dX12_costOf_26 rfl ?_
      refine j_istore (lv' := [(0, vr x0), (1, vr x1), (3, vl x3), (5, vi x5), (6, vi x6), (7, vl 0), (9, vi 0)]) (pc' := 29) dX12_costOf_27 rfl (by decide) [1, 2, 3, 4, 5, 6, 0] rfl ?_
      refine j_iconst (pc' := 30) dX12_costOf_29 rfl ?_
      refine j_istore (lv' := [(0, vr x0), (1, vr x1), (3, vl x3), (5, vi x5), (6, vi x6), (7, vl 0), (9, vi 0), (10, vi 0)]) (pc' := 32) dX12_costOf_30 rfl (by decide) [1, 2, 3, 4, 5, 6, 7, 0] rfl ?_
      exact tX12_costOf_32 _ ih FU x0 x1 x3 x5 x6 0 0 0 h rx3 rx5 rx6 ⟨by decide, by decide⟩ ⟨by decide, by decide⟩ ⟨by decide, by decide⟩ H
noncomputable def fX12_costOf (a0 : Nat) (a1 : Nat) (a2 : Int) (h : Hp) : Option (Int × Hp) :=
  (cob h 11 a0).bind fun _ => (fX12_heaps a0 a1 h).bind fun p2 => if a2 = 0 then (fX12_costOf_16 FU a0 a1 0 p2.1 0 p2.2) else (if a2 = 1 then (fX12_costOf_156 FU a0 a1 0 p2.1 0 p2.2) else (fX12_costOf_193 FU a0 a1 a2 0 0 p2.2))
theorem tX12_costOf {L : Nat} {xs : Nat → Int32} {l : Launch} {res : Int × Hp} (a0 : Nat) (a1 : Nat) (a2 : Int) (h : Hp) (ra2 : R32 a2) (H : fX12_costOf a0 a1 a2 h = some res) : J L xs l RX12 cX12_costOf 12 false 4 (QL res) 0 0 0 (alv 0 [vr a0, vr a1, vi a2]) [] h := by
  unfold fX12_costOf at H
  show J L xs l RX12 cX12_costOf 12 false 4 (QL res) 0 0 0 [(0, vr a0), (1, vr a1), (2, vi a2)] [] h
  refine j_lconst (z := 0) (pc' := 1) dX12_costOf_0 rfl rfl ?_
  refine j_lstore_n (i := 3) (lv' := [(0, vr a0), (1, vr a1), (2, vi a2), (3, vl 0)]) (pc' := 2) dX12_costOf_1 rfl rfl (by decide) [1, 2, 3, 0] rfl ?_
  refine j_aload_n (i := 0) (pc' := 3) dX12_costOf_2 rfl rfl 0 rfl ?_
  refine j_aload_n (i := 1) (pc' := 4) dX12_costOf_3 rfl rfl 1 rfl ?_
  obtain ⟨u1, e1, H⟩ := bs H
  obtain ⟨p2, e2, H⟩ := bs H
  refine j_cVi (y := yX12_heaps) (dY := 2) (vs := [vr a1]) (st := []) (q := a0) (pc' := 7) dX12_costOf_4 rfl ymX12_heaps yvX12_heaps ml_X12_133 (by decide) rfl (Nat.le_of_ble_eq_true rfl) (Nat.le_of_ble_eq_true rfl) e1 (tX12_heaps a0 a1 h e2) (fun r2 z2 => ?_)
  refine j_istore (lv' := [(0, vr a0), (1, vr a1), (2, vi a2), (3, vl 0), (5, vi p2.1)]) (pc' := 9) dX12_costOf_7 rfl (by decide) [1, 2, 3, 4, 0] rfl ?_
  refine j_iload_n (i := 2) (pc' := 10) dX12_costOf_9 rfl rfl 2 rfl ?_
  refine j_if_ne (tgt := 148) (pc' := 13) dX12_costOf_10 (by decide) rfl ra2 (fun c3 => ?_) (fun c3 => ?_)
  · rw [if_neg c3] at H
    refine j_iload_n (i := 2) (pc' := 149) dX12_costOf_148 rfl rfl 2 rfl ?_
    refine j_iconst (pc' := 150) dX12_costOf_149 rfl ?_
    refine j_icmp_ne (tgt := 190) (pc' := 153) dX12_costOf_150 (by decide) rfl ra2 ⟨by decide, by decide⟩ (fun c4 => ?_) (fun c4 => ?_)
    · rw [if_neg c4] at H
      refine j_iconst (pc' := 191) dX12_costOf_190 rfl ?_
      refine j_istore (lv' := [(0, vr a0), (1, vr a1), (2, vi a2), (3, vl 0), (5, vi p2.1), (6, vi 0)]) (pc' := 193) dX12_costOf_191 rfl (by decide) [1, 2, 3, 4, 5, 0] rfl ?_
      refine j_sub (lv' := [(0, vr a0), (1, vr a1), (2, vi a2), (3, vl 0), (6, vi 0)]) [0, 1, 2, 3, 5] rfl ?_
      exact tX12_costOf_193   FU a0 a1 a2 0 0 p2.2 ra2 ⟨by decide, by decide⟩ ⟨by decide, by decide⟩ H
    · rw [if_pos c4] at H
      refine j_iconst (pc' := 154) dX12_costOf_153 rfl ?_
      refine j_istore (lv' := [(0, vr a0), (1, vr a1), (2, vi a2), (3, vl 0), (5, vi p2.1), (6, vi 0)]) (pc' := 156) dX12_costOf_154 rfl (by decide) [1, 2, 3, 4, 5, 0] rfl ?_
      refine j_sub (lv' := [(0, vr a0), (1, vr a1), (3, vl 0), (5, vi p2.1), (6, vi 0)]) [0, 1, 3, 4, 5] rfl ?_
      exact tX12_costOf_156   FU a0 a1 0 p2.1 0 p2.2 ⟨by decide, by decide⟩ r2 ⟨by decide, by decide⟩ H
  · rw [if_pos c3] at H
    refine j_iconst (pc' := 14) dX12_costOf_13 rfl ?_
    refine j_istore (lv' := [(0, vr a0), (1, vr a1), (2, vi a2), (3, vl 0), (5, vi p2.1), (6, vi 0)]) (pc' := 16) dX12_costOf_14 rfl (by decide) [1, 2, 3, 4, 5, 0] rfl ?_
    refine j_sub (lv' := [(0, vr a0), (1, vr a1), (3, vl 0), (5, vi p2.1), (6, vi 0)]) [0, 1, 3, 4, 5] rfl ?_
    exact tX12_costOf_16   FU a0 a1 0 p2.1 0 p2.2 ⟨by decide, by decide⟩ r2 ⟨by decide, by decide⟩ H
