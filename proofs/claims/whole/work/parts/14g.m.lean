-- X11_middle
noncomputable def fX11_middle_18 (x0 : Nat) (h : Hp) : Option (Int × Hp) :=
  (cob h 10 x0).bind fun _ => (fX11_refuse x0 1 h).bind fun p2 => some (p2.1, p2.2)
theorem tX11_middle_18 {L : Nat} {xs : Nat → Int32} {l : Launch} {res : Int × Hp} (x0 : Nat) (h : Hp)  (H : fX11_middle_18 x0 h = some res) : J L xs l RX11 cX11_middle 2 false 4 (QI res) 0 0 18 [(0, vr x0)] [] h := by
  unfold fX11_middle_18 at H
  refine j_aload_n (i := 0) (pc' := 19) dX11_middle_18 rfl rfl 0 rfl ?_
  refine j_iconst (pc' := 20) dX11_middle_19 rfl ?_
  obtain ⟨u1, e1, H⟩ := bs H
  obtain ⟨p2, e2, H⟩ := bs H
  refine j_cVi (y := yX11_refuse) (dY := 1) (vs := [vi 1]) (st := []) (q := x0) (pc' := 23) dX11_middle_20 rfl ymX11_refuse yvX11_refuse ml_X11_105 (by decide) rfl (Nat.le_of_ble_eq_true rfl) (Nat.le_of_ble_eq_true rfl) e1 (tX11_refuse x0 1 h ⟨by decide, by decide⟩ e2) (fun r2 z2 => ?_)
  obtain rfl := Option.some.inj H
  exact j_iret dX11_middle_23 r2 ⟨rfl, rfl⟩
noncomputable def fX11_middle (a0 : Nat) (a1 : Int) (h : Hp) : Option (Int × Hp) :=
  if a1 < 0 then (fX11_middle_18 a0 h) else ((getR h 10 a0 0).bind fun v2 => (getR h 6 v2 5).bind fun v3 => (getI h 5 v3 1).bind fun v4 => if a1 < v4 then ((putV h 10 a0 11 (vi 0)).bind fun h6 => (getR h6 10 a0 0).bind fun v7 => (getR h6 10 a0 0).bind fun v8 => (getR h6 6 v8 5).bind fun v9 => (cob h6 5 v9).bind fun _ => (fX6_membersOf v9 a1 h6).bind fun p11 => (fX0_middleOf v7 p11.1 p11.2).bind fun p12 => some (p12.1, p12.2)) else (fX11_middle_18 a0 h))
theorem tX11_middle {L : Nat} {xs : Nat → Int32} {l : Launch} {res : Int × Hp} (a0 : Nat) (a1 : Int) (h : Hp) (ra1 : R32 a1) (H : fX11_middle a0 a1 h = some res) : J L xs l RX11 cX11_middle 2 false 4 (QI res) 0 0 0 (alv 0 [vr a0, vi a1]) [] h := by
  unfold fX11_middle at H
  show J L xs l RX11 cX11_middle 2 false 4 (QI res) 0 0 0 [(0, vr a0), (1, vi a1)] [] h
  refine j_iload_n (i := 1) (pc' := 1) dX11_middle_0 rfl rfl 1 rfl ?_
  refine j_if_lt (tgt := 18) (pc' := 4) dX11_middle_1 (by decide) rfl ra1 (fun c1 => ?_) (fun c1 => ?_)
  · rw [if_pos c1] at H
    refine j_sub (lv' := [(0, vr a0)]) [0] rfl ?_
    exact tX11_middle_18   a0 h  H
  · rw [if_neg c1] at H
    refine j_iload_n (i := 1) (pc' := 5) dX11_middle_4 rfl rfl 1 rfl ?_
    refine j_aload_n (i := 0) (pc' := 6) dX11_middle_5 rfl rfl 0 rfl ?_
    obtain ⟨v2, e2, H⟩ := bs H
    refine j_getR (pc' := 9) dX11_middle_6 rfl fl_X11_10 e2 (fun r2 => ?_)
    obtain ⟨v3, e3, H⟩ := bs H
    refine j_getR (pc' := 12) dX11_middle_9 rfl fl_X11_163 e3 (fun r3 => ?_)
    obtain ⟨v4, e4, H⟩ := bs H
    refine j_getI (pc' := 15) dX11_middle_12 rfl fl_X11_166 e4 (fun r4 => ?_)
    refine j_icmp_lt (tgt := 24) (pc' := 18) dX11_middle_15 (by decide) rfl ra1 r4 (fun c5 => ?_) (fun c5 => ?_)
    · rw [if_pos c5] at H
      refine j_aload_n (i := 0) (pc' := 25) dX11_middle_24 rfl rfl 0 rfl ?_
      refine j_iconst (pc' := 26) dX11_middle_25 rfl ?_
      obtain ⟨h6, e6, H⟩ := bs H
      refine j_putV (pc' := 29) dX11_middle_26 rfl fp_X11_83 tI ⟨by decide, by decide⟩ e6 ?_
      refine j_aload_n (i := 0) (pc' := 30) dX11_middle_29 rfl rfl 0 rfl ?_
      obtain ⟨v7, e7, H⟩ := bs H
      refine j_getR (pc' := 33) dX11_middle_30 rfl fl_X11_10 e7 (fun r7 => ?_)
      refine j_aload_n (i := 0) (pc' := 34) dX11_middle_33 rfl rfl 0 rfl ?_
      obtain ⟨v8, e8, H⟩ := bs H
      refine j_getR (pc' := 37) dX11_middle_34 rfl fl_X11_10 e8 (fun r8 => ?_)
      obtain ⟨v9, e9, H⟩ := bs H
      refine j_getR (pc' := 40) dX11_middle_37 rfl fl_X11_163 e9 (fun r9 => ?_)
      refine j_iload_n (i := 1) (pc' := 41) dX11_middle_40 rfl rfl 1 rfl ?_
      obtain ⟨u10, e10, H⟩ := bs H
      obtain ⟨p11, e11, H⟩ := bs H
      refine j_cVi (y := yX6_membersOf) (dY := 1) (vs := [vi a1]) (st := [vr v7]) (q := v9) (pc' := 44) dX11_middle_41 rfl ymX6_membersOf yvX6_membersOf ml_X11_193 (by decide) rfl (Nat.le_of_ble_eq_true rfl) (Nat.le_of_ble_eq_true rfl) e10 (tX6_membersOf v9 a1 h6 ra1 e11) (fun r11 z11 => ?_)
      obtain ⟨p12, e12, H⟩ := bs H
      refine j_cSi (y := yX0_middleOf) (dY := 3) (vs := [vr v7, vi p11.1]) (st := []) (pc' := 47) dX11_middle_44 rfl ymX0_middleOf ysX0_middleOf ml_X11_196 (by decide) rfl (Nat.le_of_ble_eq_true rfl) (Nat.le_of_ble_eq_true rfl) (tX0_middleOf v7 p11.1 p11.2 r11 e12) (fun r12 z12 => ?_)
      obtain rfl := Option.some.inj H
      exact j_iret dX11_middle_47 r12 ⟨rfl, rfl⟩
    · rw [if_neg c5] at H
      refine j_sub (lv' := [(0, vr a0)]) [0] rfl ?_
      exact tX11_middle_18   a0 h  H
-- X11_best
noncomputable def fX11_best_22 (x0 : Nat) (h : Hp) : Option (Int × Hp) :=
  (cob h 10 x0).bind fun _ => (fX11_refuse x0 1 h).bind fun p2 => some (p2.1, p2.2)
theorem tX11_best_22 {L : Nat} {xs : Nat → Int32} {l : Launch} {res : Int × Hp} (x0 : Nat) (h : Hp)  (H : fX11_best_22 x0 h = some res) : J L xs l RX11 cX11_best 5 false 25 (QL res) 0 0 22 [(0, vr x0)] [] h := by
  unfold fX11_best_22 at H
  refine j_aload_n (i := 0) (pc' := 23) dX11_best_22 rfl rfl 0 rfl ?_
  refine j_iconst (pc' := 24) dX11_best_23 rfl ?_
  obtain ⟨u1, e1, H⟩ := bs H
  obtain ⟨p2, e2, H⟩ := bs H
  refine j_cVi (y := yX11_refuse) (dY := 1) (vs := [vi 1]) (st := []) (q := x0) (pc' := 27) dX11_best_24 rfl ymX11_refuse yvX11_refuse ml_X11_105 (by decide) rfl (Nat.le_of_ble_eq_true rfl) (Nat.le_of_ble_eq_true rfl) e1 (tX11_refuse x0 1 h ⟨by decide, by decide⟩ e2) (fun r2 z2 => ?_)
  refine j_i2l (pc' := 28) dX11_best_27 rfl r2 ?_
  obtain rfl := Option.some.inj H
  exact j_lret dX11_best_28 (R32_l r2) ⟨rfl, rfl⟩
noncomputable def fX11_best_77 (x0 : Nat) (x1 : Int) (x3 : Int) (s0 : Int) (h : Hp) : Option (Int × Hp) :=
  (getR h 10 x0 6).bind fun v1 => (getR h 10 x0 0).bind fun v2 => (cob h 7 v1).bind fun _ => (fX8_run v1 v2 x1 x3 s0 h).bind fun p4 => some (p4.1, p4.2)
theorem tX11_best_77 {L : Nat} {xs : Nat → Int32} {l : Launch} {res : Int × Hp} (x0 : Nat) (x1 : Int) (x3 : Int) (s0 : Int) (h : Hp) (rx1 : R32 x1) (rx3 : R32 x3) (rs0 : R32 s0) (H : fX11_best_77 x0 x1 x3 s0 h = some res) : J L xs l RX11 cX11_best 5 false 25 (QL res) 0 0 77 [(0, vr x0), (1, vi x1), (3, vi x3)] [vi s0] h := by
  unfold fX11_best_77 at H
  refine j_istore (lv' := [(0, vr x0), (1, vi x1), (3, vi x3), (4, vi s0)]) (pc' := 79) dX11_best_77 rfl (by decide) [1, 2, 3, 0] rfl ?_
  refine j_aload_n (i := 0) (pc' := 80) dX11_best_79 rfl rfl 0 rfl ?_
  obtain ⟨v1, e1, H⟩ := bs H
  refine j_getR (pc' := 83) dX11_best_80 rfl fl_X11_51 e1 (fun r1 => ?_)
  refine j_aload_n (i := 0) (pc' := 84) dX11_best_83 rfl rfl 0 rfl ?_
  obtain ⟨v2, e2, H⟩ := bs H
  refine j_getR (pc' := 87) dX11_best_84 rfl fl_X11_10 e2 (fun r2 => ?_)
  refine j_iload_n (i := 1) (pc' := 88) dX11_best_87 rfl rfl 1 rfl ?_
  refine j_iload_n (i := 3) (pc' := 89) dX11_best_88 rfl rfl 2 rfl ?_
  refine j_iload (pc' := 91) dX11_best_89 rfl 3 rfl ?_
  obtain ⟨u3, e3, H⟩ := bs H
  obtain ⟨p4, e4, H⟩ := bs H
  refine j_cVl (y := yX8_run) (dY := 24) (vs := [vr v2, vi x1, vi x3, vi s0]) (st := []) (q := v1) (pc' := 94) dX11_best_91 rfl ymX8_run yvX8_run ml_X11_200 (by decide) rfl (Nat.le_of_ble_eq_true rfl) (Nat.le_of_ble_eq_true rfl) e3 (tX8_run v1 v2 x1 x3 s0 h rx1 rx3 rs0 e4) (fun r4 z4 => ?_)
  obtain rfl := Option.some.inj H
  exact j_lret dX11_best_94 r4 ⟨rfl, rfl⟩
noncomputable def fX11_best_61 (x0 : Nat) (x1 : Int) (x2 : Int) (s0 : Int) (h : Hp) : Option (Int × Hp) :=
  if x2 = 0 then ((getR h 10 x0 0).bind fun v2 => (getI h 6 v2 0).bind fun v3 => fX11_best_77 x0 x1 s0 v3 h) else (fX11_best_77 x0 x1 s0 x2 h)
theorem tX11_best_61 {L : Nat} {xs : Nat → Int32} {l : Launch} {res : Int × Hp} (x0 : Nat) (x1 : Int) (x2 : Int) (s0 : Int) (h : Hp) (rx1 : R32 x1) (rx2 : R32 x2) (rs0 : R32 s0) (H : fX11_best_61 x0 x1 x2 s0 h = some res) : J L xs l RX11 cX11_best 5 false 25 (QL res) 0 0 61 [(0, vr x0), (1, vi x1), (2, vi x2)] [vi s0] h := by
  unfold fX11_best_61 at H
  refine j_istore_n (i := 3) (lv' := [(0, vr x0), (1, vi x1), (2, vi x2), (3, vi s0)]) (pc' := 62) dX11_best_61 rfl rfl (by decide) [1, 2, 3, 0] rfl ?_
  refine j_iload_n (i := 2) (pc' := 63) dX11_best_62 rfl rfl 2 rfl ?_
  refine j_if_ne (tgt := 76) (pc' := 66) dX11_best_63 (by decide) rfl rx2 (fun c1 => ?_) (fun c1 => ?_)
  · rw [if_neg c1] at H
    refine j_iload_n (i := 2) (pc' := 77) dX11_best_76 rfl rfl 2 rfl ?_
    refine j_sub (lv' := [(0, vr x0), (1, vi x1), (3, vi s0)]) [0, 1, 3] rfl ?_
    exact tX11_best_77   x0 x1 s0 x2 h rx1 rs0 rx2 H
  · rw [if_pos c1] at H
    refine j_aload_n (i := 0) (pc' := 67) dX11_best_66 rfl rfl 0 rfl ?_
    obtain ⟨v2, e2, H⟩ := bs H
    refine j_getR (pc' := 70) dX11_best_67 rfl fl_X11_10 e2 (fun r2 => ?_)
    obtain ⟨v3, e3, H⟩ := bs H
    refine j_getI (pc' := 73) dX11_best_70 rfl fl_X11_147 e3 (fun r3 => ?_)
    refine j_goto (tgt := 77) dX11_best_73 (by decide) ?_
    refine j_sub (lv' := [(0, vr x0), (1, vi x1), (3, vi s0)]) [0, 1, 3] rfl ?_
    exact tX11_best_77   x0 x1 s0 v3 h rx1 rs0 r3 H
noncomputable def fX11_best (a0 : Nat) (a1 : Int) (a2 : Int) (h : Hp) : Option (Int × Hp) :=
  (fX11_isGoal a1 h).bind fun p1 => if p1.1 = 0 then (fX11_best_22 a0 p1.2) else (if a2 < 0 then (fX11_best_22 a0 p1.2) else ((getR p1.2 10 a0 0).bind fun v4 => (getI p1.2 6 v4 0).bind fun v5 => if a2 ≤ v5 then ((getR p1.2 10 a0 0).bind fun v7 => (getI p1.2 6 v7 0).bind fun v8 => if v8 ≤ 9 then ((cob p1.2 10 a0).bind fun _ => (crf p1.2 a0).bind fun _ => (fX11_change a0 p1.2).bind fun h12 => if a2 = 0 then (fX11_best_61 a0 a1 a2 1 h12) else (fX11_best_61 a0 a1 a2 a2 h12)) else ((cob p1.2 10 a0).bind fun _ => (fX11_refuse a0 3 p1.2).bind fun p15 => some (p15.1, p15.2))) else (fX11_best_22 a0 p1.2)))
theorem tX11_best {L : Nat} {xs : Nat → Int32} {l : Launch} {res : Int × Hp} (a0 : Nat) (a1 : Int) (a2 : Int) (h : Hp) (ra1 : R32 a1) (ra2 : R32 a2) (H : fX11_best a0 a1 a2 h = some res) : J L xs l RX11 cX11_best 5 false 25 (QL res) 8 515 0 (alv 0 [vr a0, vi a1, vi a2]) [] h := by
  unfold fX11_best at H
  show J L xs l RX11 cX11_best 5 false 25 (QL res) 8 515 0 [(0, vr a0), (1, vi a1), (2, vi a2)] [] h
  refine j_iload_n (i := 1) (pc' := 1) dX11_best_0 rfl rfl 1 rfl ?_
  obtain ⟨p1, e1, H⟩ := bs H
  refine j_cSb (y := yX11_isGoal) (dY := 1) (vs := [vi a1]) (st := []) (pc' := 4) dX11_best_1 rfl ymX11_isGoal ysX11_isGoal ml_X11_184 (by decide) rfl (Nat.le_of_ble_eq_true rfl) (Nat.le_of_ble_eq_true rfl) (tX11_isGoal a1 h ra1 e1) (fun r1 b1 z1 => ?_)
  refine j_if_eq (tgt := 22) (pc' := 7) dX11_best_4 (by decide) rfl r1 (fun c2 => ?_) (fun c2 => ?_)
  · rw [if_pos c2] at H
    refine j_sub (lv' := [(0, vr a0)]) [0] rfl ?_
    refine j_rc (rc2 := 0) (rs2 := 0) (by omega) (by omega) ?_
    exact tX11_best_22   a0 p1.2  H
  · rw [if_neg c2] at H
    refine j_iload_n (i := 2) (pc' := 8) dX11_best_7 rfl rfl 2 rfl ?_
    refine j_if_lt (tgt := 22) (pc' := 11) dX11_best_8 (by decide) rfl ra2 (fun c3 => ?_) (fun c3 => ?_)
    · rw [if_pos c3] at H
      refine j_sub (lv' := [(0, vr a0)]) [0] rfl ?_
      refine j_rc (rc2 := 0) (rs2 := 0) (by omega) (by omega) ?_
      exact tX11_best_22   a0 p1.2  H
    · rw [if_neg c3] at H
      refine j_iload_n (i := 2) (pc' := 12) dX11_best_11 rfl rfl 2 rfl ?_
      refine j_aload_n (i := 0) (pc' := 13) dX11_best_12 rfl rfl 0 rfl ?_
      obtain ⟨v4, e4, H⟩ := bs H
      refine j_getR (pc' := 16) dX11_best_13 rfl fl_X11_10 e4 (fun r4 => ?_)
      obtain ⟨v5, e5, H⟩ := bs H
      refine j_getI (pc' := 19) dX11_best_16 rfl fl_X11_147 e5 (fun r5 => ?_)
      refine j_icmp_le (tgt := 29) (pc' := 22) dX11_best_19 (by decide) rfl ra2 r5 (fun c6 => ?_) (fun c6 => ?_)
      · rw [if_pos c6] at H
        refine j_aload_n (i := 0) (pc' := 30) dX11_best_29 rfl rfl 0 rfl ?_
        obtain ⟨v7, e7, H⟩ := bs H
        refine j_getR (pc' := 33) dX11_best_30 rfl fl_X11_10 e7 (fun r7 => ?_)
        obtain ⟨v8, e8, H⟩ := bs H
        refine j_getI (pc' := 36) dX11_best_33 rfl fl_X11_147 e8 (fun r8 => ?_)
        refine j_bipush (pc' := 38) dX11_best_36 rfl (by decide +kernel) ?_
        refine j_icmp_le (tgt := 48) (pc' := 41) dX11_best_38 (by decide) rfl r8 ⟨by decide, by decide⟩ (fun c9 => ?_) (fun c9 => ?_)
        · rw [if_pos c9] at H
          refine j_aload_n (i := 0) (pc' := 49) dX11_best_48 rfl rfl 0 rfl ?_
          obtain ⟨u10, e10, H⟩ := bs H
          obtain ⟨u11, e11, H⟩ := bs H
          obtain ⟨h12, e12, H⟩ := bs H
          refine j_aVv (y := yX11_change) (dY := 4) (vs := []) (st := []) (q := a0) (mc := 8) (ms := 515) (rc := 0) (rs := 0) (pc' := 52) dX11_best_49 rfl ymX11_change yvX11_change ml_X11_95 (by decide) rfl (Nat.le_of_ble_eq_true rfl) (Nat.le_of_ble_eq_true rfl) e10 trivial ⟨(crf_R e11), trivial, trivial, trivial⟩ (tX11_change a0 p1.2 e12) ?_
          refine j_iload_n (i := 2) (pc' := 53) dX11_best_52 rfl rfl 2 rfl ?_
          refine j_if_ne (tgt := 60) (pc' := 56) dX11_best_53 (by decide) rfl ra2 (fun c13 => ?_) (fun c13 => ?_)
          · rw [if_neg c13] at H
            refine j_iload_n (i := 2) (pc' := 61) dX11_best_60 rfl rfl 2 rfl ?_
            exact tX11_best_61   a0 a1 a2 a2 h12 ra1 ra2 ra2 H
          · rw [if_pos c13] at H
            refine j_iconst (pc' := 57) dX11_best_56 rfl ?_
            refine j_goto (tgt := 61) dX11_best_57 (by decide) ?_
            exact tX11_best_61   a0 a1 a2 1 h12 ra1 ra2 ⟨by decide, by decide⟩ H
        · rw [if_neg c9] at H
          refine j_aload_n (i := 0) (pc' := 42) dX11_best_41 rfl rfl 0 rfl ?_
          refine j_iconst (pc' := 43) dX11_best_42 rfl ?_
          obtain ⟨u14, e14, H⟩ := bs H
          obtain ⟨p15, e15, H⟩ := bs H
          refine j_cVi (y := yX11_refuse) (dY := 1) (vs := [vi 3]) (st := []) (q := a0) (pc' := 46) dX11_best_43 rfl ymX11_refuse yvX11_refuse ml_X11_105 (by decide) rfl (Nat.le_of_ble_eq_true rfl) (Nat.le_of_ble_eq_true rfl) e14 (tX11_refuse a0 3 p1.2 ⟨by decide, by decide⟩ e15) (fun r15 z15 => ?_)
          refine j_i2l (pc' := 47) dX11_best_46 rfl r15 ?_
          obtain rfl := Option.some.inj H
          exact j_lret dX11_best_47 (R32_l r15) ⟨rfl, rfl⟩
      · rw [if_neg c6] at H
        refine j_sub (lv' := [(0, vr a0)]) [0] rfl ?_
        refine j_rc (rc2 := 0) (rs2 := 0) (by omega) (by omega) ?_
        exact tX11_best_22   a0 p1.2  H
-- X11_line
noncomputable def fX11_line_25 (x0 : Nat) (h : Hp) : Option (Int × Hp) :=
  (cob h 10 x0).bind fun _ => (fX11_refuse x0 1 h).bind fun p2 => some (p2.1, p2.2)
theorem tX11_line_25 {L : Nat} {xs : Nat → Int32} {l : Launch} {res : Int × Hp} (x0 : Nat) (h : Hp)  (H : fX11_line_25 x0 h = some res) : J L xs l RX11 cX11_line 3 false 7 (QL res) 0 0 25 [(0, vr x0)] [] h := by
  unfold fX11_line_25 at H
  refine j_aload_n (i := 0) (pc' := 26) dX11_line_25 rfl rfl 0 rfl ?_
  refine j_iconst (pc' := 27) dX11_line_26 rfl ?_
  obtain ⟨u1, e1, H⟩ := bs H
  obtain ⟨p2, e2, H⟩ := bs H
  refine j_cVi (y := yX11_refuse) (dY := 1) (vs := [vi 1]) (st := []) (q := x0) (pc' := 30) dX11_line_27 rfl ymX11_refuse yvX11_refuse ml_X11_105 (by decide) rfl (Nat.le_of_ble_eq_true rfl) (Nat.le_of_ble_eq_true rfl) e1 (tX11_refuse x0 1 h ⟨by decide, by decide⟩ e2) (fun r2 z2 => ?_)
  refine j_i2l (pc' := 31) dX11_line_30 rfl r2 ?_
  obtain rfl := Option.some.inj H
  exact j_lret dX11_line_31 (R32_l r2) ⟨rfl, rfl⟩
noncomputable def fX11_line (a0 : Nat) (a1 : Int) (a2 : Int) (h : Hp) : Option (Int × Hp) :=
  if a1 < 0 then (fX11_line_25 a0 h) else (if 2 < a1 then (fX11_line_25 a0 h) else (if a2 < 1 then (fX11_line_25 a0 h) else ((getR h 10 a0 0).bind fun v4 => (getI h 6 v4 0).bind fun v5 => if a2 ≤ v5 then ((cob h 10 a0).bind fun _ => (crf h a0).bind fun _ => (fX11_change a0 h).bind fun h9 => (getR h9 10 a0 7).bind fun v10 => (getR h9 10 a0 0).bind fun v11 => (cob h9 2 v10).bind fun _ => (fX3_run v10 v11 a1 a2 h9).bind fun p13 => some (p13.1, p13.2)) else (fX11_line_25 a0 h))))
theorem tX11_line {L : Nat} {xs : Nat → Int32} {l : Launch} {res : Int × Hp} (a0 : Nat) (a1 : Int) (a2 : Int) (h : Hp) (ra1 : R32 a1) (ra2 : R32 a2) (H : fX11_line a0 a1 a2 h = some res) : J L xs l RX11 cX11_line 3 false 7 (QL res) 8 515 0 (alv 0 [vr a0, vi a1, vi a2]) [] h := by
  unfold fX11_line at H
  show J L xs l RX11 cX11_line 3 false 7 (QL res) 8 515 0 [(0, vr a0), (1, vi a1), (2, vi a2)] [] h
  refine j_iload_n (i := 1) (pc' := 1) dX11_line_0 rfl rfl 1 rfl ?_
  refine j_if_lt (tgt := 25) (pc' := 4) dX11_line_1 (by decide) rfl ra1 (fun c1 => ?_) (fun c1 => ?_)
  · rw [if_pos c1] at H
    refine j_sub (lv' := [(0, vr a0)]) [0] rfl ?_
    refine j_rc (rc2 := 0) (rs2 := 0) (by omega) (by omega) ?_
    exact tX11_line_25   a0 h  H
  · rw [if_neg c1] at H
    refine j_iload_n (i := 1) (pc' := 5) dX11_line_4 rfl rfl 1 rfl ?_
    refine j_iconst (pc' := 6) dX11_line_5 rfl ?_
    refine j_icmp_gt (tgt := 25) (pc' := 9) dX11_line_6 (by decide) rfl ra1 ⟨by decide, by decide⟩ (fun c2 => ?_) (fun c2 => ?_)
    · rw [if_pos c2] at H
      refine j_sub (lv' := [(0, vr a0)]) [0] rfl ?_
      refine j_rc (rc2 := 0) (rs2 := 0) (by omega) (by omega) ?_
      exact tX11_line_25   a0 h  H
    · rw [if_neg c2] at H
      refine j_iload_n (i := 2) (pc' := 10) dX11_line_9 rfl rfl 2 rfl ?_
      refine j_iconst (pc' := 11) dX11_line_10 rfl ?_
      refine j_icmp_lt (tgt := 25) (pc' := 14) dX11_line_11 (by decide) rfl ra2 ⟨by decide, by decide⟩ (fun c3 => ?_) (fun c3 => ?_)
      · rw [if_pos c3] at H
        refine j_sub (lv' := [(0, vr a0)]) [0] rfl ?_
        refine j_rc (rc2 := 0) (rs2 := 0) (by omega) (by omega) ?_
        exact tX11_line_25   a0 h  H
      · rw [if_neg c3] at H
        refine j_iload_n (i := 2) (pc' := 15) dX11_line_14 rfl rfl 2 rfl ?_
        refine j_aload_n (i := 0) (pc' := 16) dX11_line_15 rfl rfl 0 rfl ?_
        obtain ⟨v4, e4, H⟩ := bs H
        refine j_getR (pc' := 19) dX11_line_16 rfl fl_X11_10 e4 (fun r4 => ?_)
        obtain ⟨v5, e5, H⟩ := bs H
        refine j_getI (pc' := 22) dX11_line_19 rfl fl_X11_147 e5 (fun r5 => ?_)
        refine j_icmp_le (tgt := 32) (pc' := 25) dX11_line_22 (by decide) rfl ra2 r5 (fun c6 => ?_) (fun c6 => ?_)
        · rw [if_pos c6] at H
          refine j_aload_n (i := 0) (pc' := 33) dX11_line_32 rfl rfl 0 rfl ?_
          obtain ⟨u7, e7, H⟩ := bs H
          obtain ⟨u8, e8, H⟩ := bs H
          obtain ⟨h9, e9, H⟩ := bs H
          refine j_aVv (y := yX11_change) (dY := 4) (vs := []) (st := []) (q := a0) (mc := 8) (ms := 515) (rc := 0) (rs := 0) (pc' := 36) dX11_line_33 rfl ymX11_change yvX11_change ml_X11_95 (by decide) rfl (Nat.le_of_ble_eq_true rfl) (Nat.le_of_ble_eq_true rfl) e7 trivial ⟨(crf_R e8), trivial, trivial, trivial⟩ (tX11_change a0 h e9) ?_
          refine j_aload_n (i := 0) (pc' := 37) dX11_line_36 rfl rfl 0 rfl ?_
          obtain ⟨v10, e10, H⟩ := bs H
          refine j_getR (pc' := 40) dX11_line_37 rfl fl_X11_58 e10 (fun r10 => ?_)
          refine j_aload_n (i := 0) (pc' := 41) dX11_line_40 rfl rfl 0 rfl ?_
          obtain ⟨v11, e11, H⟩ := bs H
          refine j_getR (pc' := 44) dX11_line_41 rfl fl_X11_10 e11 (fun r11 => ?_)
          refine j_iload_n (i := 1) (pc' := 45) dX11_line_44 rfl rfl 1 rfl ?_
          refine j_iload_n (i := 2) (pc' := 46) dX11_line_45 rfl rfl 2 rfl ?_
          obtain ⟨u12, e12, H⟩ := bs H
          obtain ⟨p13, e13, H⟩ := bs H
          refine j_cVl (y := yX3_run) (dY := 6) (vs := [vr v11, vi a1, vi a2]) (st := []) (q := v10) (pc' := 49) dX11_line_46 rfl ymX3_run yvX3_run ml_X11_204 (by decide) rfl (Nat.le_of_ble_eq_true rfl) (Nat.le_of_ble_eq_true rfl) e12 (tX3_run v10 v11 a1 a2 h9 ra1 ra2 e13) (fun r13 z13 => ?_)
          obtain rfl := Option.some.inj H
          exact j_lret dX11_line_49 r13 ⟨rfl, rfl⟩
        · rw [if_neg c6] at H
          refine j_sub (lv' := [(0, vr a0)]) [0] rfl ?_
          refine j_rc (rc2 := 0) (rs2 := 0) (by omega) (by omega) ?_
          exact tX11_line_25   a0 h  H
-- X11_better
noncomputable def fX11_better (a0 : Nat) (a1 : Int) (h : Hp) : Option (Int × Hp) :=
  (fX11_isGoal a1 h).bind fun p1 => if p1.1 = 0 then ((cob p1.2 10 a0).bind fun _ => (fX11_refuse a0 1 p1.2).bind fun p11 => some (p11.1, p11.2)) else ((cob p1.2 10 a0).bind fun _ => (crf p1.2 a0).bind fun _ => (fX11_change a0 p1.2).bind fun h5 => (getR h5 10 a0 8).bind fun v6 => (getR h5 10 a0 0).bind fun v7 => (cob h5 3 v6).bind fun _ => (fX4_run v6 v7 a1 h5).bind fun p9 => some (p9.1, p9.2))
theorem tX11_better {L : Nat} {xs : Nat → Int32} {l : Launch} {res : Int × Hp} (a0 : Nat) (a1 : Int) (h : Hp) (ra1 : R32 a1) (H : fX11_better a0 a1 h = some res) : J L xs l RX11 cX11_better 2 false 8 (QI res) 8 515 0 (alv 0 [vr a0, vi a1]) [] h := by
  unfold fX11_better at H
  show J L xs l RX11 cX11_better 2 false 8 (QI res) 8 515 0 [(0, vr a0), (1, vi a1)] [] h
  refine j_iload_n (i := 1) (pc' := 1) dX11_better_0 rfl rfl 1 rfl ?_
  obtain ⟨p1, e1, H⟩ := bs H
  refine j_cSb (y := yX11_isGoal) (dY := 1) (vs := [vi a1]) (st := []) (pc' := 4) dX11_better_1 rfl ymX11_isGoal ysX11_isGoal ml_X11_184 (by decide) rfl (Nat.le_of_ble_eq_true rfl) (Nat.le_of_ble_eq_true rfl) (tX11_isGoal a1 h ra1 e1) (fun r1 b1 z1 => ?_)
  refine j_if_ne (tgt := 13) (pc' := 7) dX11_better_4 (by decide) rfl r1 (fun c2 => ?_) (fun c2 => ?_)
  · rw [if_neg c2] at H
    refine j_aload_n (i := 0) (pc' := 14) dX11_better_13 rfl rfl 0 rfl ?_
    obtain ⟨u3, e3, H⟩ := bs H
    obtain ⟨u4, e4, H⟩ := bs H
    obtain ⟨h5, e5, H⟩ := bs H
    refine j_aVv (y := yX11_change) (dY := 4) (vs := []) (st := []) (q := a0) (mc := 8) (ms := 515) (rc := 0) (rs := 0) (pc' := 17) dX11_better_14 rfl ymX11_change yvX11_change ml_X11_95 (by decide) rfl (Nat.le_of_ble_eq_true rfl) (Nat.le_of_ble_eq_true rfl) e3 trivial ⟨(crf_R e4), trivial, trivial⟩ (tX11_change a0 p1.2 e5) ?_
    refine j_aload_n (i := 0) (pc' := 18) dX11_better_17 rfl rfl 0 rfl ?_
    obtain ⟨v6, e6, H⟩ := bs H
    refine j_getR (pc' := 21) dX11_better_18 rfl fl_X11_65 e6 (fun r6 => ?_)
    refine j_aload_n (i := 0) (pc' := 22) dX11_better_21 rfl rfl 0 rfl ?_
    obtain ⟨v7, e7, H⟩ := bs H
    refine j_getR (pc' := 25) dX11_better_22 rfl fl_X11_10 e7 (fun r7 => ?_)
    refine j_iload_n (i := 1) (pc' := 26) dX11_better_25 rfl rfl 1 rfl ?_
    obtain ⟨u8, e8, H⟩ := bs H
    obtain ⟨p9, e9, H⟩ := bs H
    refine j_cVi (y := yX4_run) (dY := 7) (vs := [vr v7, vi a1]) (st := []) (q := v6) (pc' := 29) dX11_better_26 rfl ymX4_run yvX4_run ml_X11_207 (by decide) rfl (Nat.le_of_ble_eq_true rfl) (Nat.le_of_ble_eq_true rfl) e8 (tX4_run v6 v7 a1 h5 ra1 e9) (fun r9 z9 => ?_)
    obtain rfl := Option.some.inj H
    exact j_iret dX11_better_29 r9 ⟨rfl, rfl⟩
  · rw [if_pos c2] at H
    refine j_aload_n (i := 0) (pc' := 8) dX11_better_7 rfl rfl 0 rfl ?_
    refine j_iconst (pc' := 9) dX11_better_8 rfl ?_
    obtain ⟨u10, e10, H⟩ := bs H
    obtain ⟨p11, e11, H⟩ := bs H
    refine j_cVi (y := yX11_refuse) (dY := 1) (vs := [vi 1]) (st := []) (q := a0) (pc' := 12) dX11_better_9 rfl ymX11_refuse yvX11_refuse ml_X11_105 (by decide) rfl (Nat.le_of_ble_eq_true rfl) (Nat.le_of_ble_eq_true rfl) e10 (tX11_refuse a0 1 p1.2 ⟨by decide, by decide⟩ e11) (fun r11 z11 => ?_)
    obtain rfl := Option.some.inj H
    exact j_iret dX11_better_12 r11 ⟨rfl, rfl⟩
-- X11_two
noncomputable def fX11_two (a0 : Nat) (h : Hp) : Option (Int × Hp) :=
  (cob h 10 a0).bind fun _ => (crf h a0).bind fun _ => (fX11_change a0 h).bind fun h3 => (getR h3 10 a0 6).bind fun v4 => (getR h3 10 a0 0).bind fun v5 => (cob h3 7 v4).bind fun _ => (fX8_run v4 v5 2 1 2 h3).bind fun p7 => some ((l2w p7.1), p7.2)
theorem tX11_two {L : Nat} {xs : Nat → Int32} {l : Launch} {res : Int × Hp} (a0 : Nat) (h : Hp)  (H : fX11_two a0 h = some res) : J L xs l RX11 cX11_two 1 false 25 (QI res) 8 515 0 (alv 0 [vr a0]) [] h := by
  unfold fX11_two at H
  show J L xs l RX11 cX11_two 1 false 25 (QI res) 8 515 0 [(0, vr a0)] [] h
  refine j_aload_n (i := 0) (pc' := 1) dX11_two_0 rfl rfl 0 rfl ?_
  obtain ⟨u1, e1, H⟩ := bs H
  obtain ⟨u2, e2, H⟩ := bs H
  obtain ⟨h3, e3, H⟩ := bs H
  refine j_aVv (y := yX11_change) (dY := 4) (vs := []) (st := []) (q := a0) (mc := 8) (ms := 515) (rc := 0) (rs := 0) (pc' := 4) dX11_two_1 rfl ymX11_change yvX11_change ml_X11_95 (by decide) rfl (Nat.le_of_ble_eq_true rfl) (Nat.le_of_ble_eq_true rfl) e1 trivial ⟨(crf_R e2), trivial⟩ (tX11_change a0 h e3) ?_
  refine j_aload_n (i := 0) (pc' := 5) dX11_two_4 rfl rfl 0 rfl ?_
  obtain ⟨v4, e4, H⟩ := bs H
  refine j_getR (pc' := 8) dX11_two_5 rfl fl_X11_51 e4 (fun r4 => ?_)
  refine j_aload_n (i := 0) (pc' := 9) dX11_two_8 rfl rfl 0 rfl ?_
  obtain ⟨v5, e5, H⟩ := bs H
  refine j_getR (pc' := 12) dX11_two_9 rfl fl_X11_10 e5 (fun r5 => ?_)
  refine j_iconst (pc' := 13) dX11_two_12 rfl ?_
  refine j_iconst (pc' := 14) dX11_two_13 rfl ?_
  refine j_iconst (pc' := 15) dX11_two_14 rfl ?_
  obtain ⟨u6, e6, H⟩ := bs H
  obtain ⟨p7, e7, H⟩ := bs H
  refine j_cVl (y := yX8_run) (dY := 24) (vs := [vr v5, vi 2, vi 1, vi 2]) (st := []) (q := v4) (pc' := 18) dX11_two_15 rfl ymX8_run yvX8_run ml_X11_200 (by decide) rfl (Nat.le_of_ble_eq_true rfl) (Nat.le_of_ble_eq_true rfl) e6 (tX8_run v4 v5 2 1 2 h3 ⟨by decide, by decide⟩ ⟨by decide, by decide⟩ ⟨by decide, by decide⟩ e7) (fun r7 z7 => ?_)
  refine j_l2i (pc' := 19) dX11_two_18 rfl ?_
  obtain rfl := Option.some.inj H
  exact j_iret dX11_two_19 (R32_to _) ⟨rfl, rfl⟩
-- X11_centres
noncomputable def fX11_centres_16 (x0 : Nat) (h : Hp) : Option (Int × Hp) :=
  (cob h 10 x0).bind fun _ => (fX11_refuse x0 1 h).bind fun p2 => some (p2.1, p2.2)
theorem tX11_centres_16 {L : Nat} {xs : Nat → Int32} {l : Launch} {res : Int × Hp} (x0 : Nat) (h : Hp)  (H : fX11_centres_16 x0 h = some res) : J L xs l RX11 cX11_centres 2 false 5 (QI res) 0 0 16 [(0, vr x0)] [] h := by
  unfold fX11_centres_16 at H
  refine j_aload_n (i := 0) (pc' := 17) dX11_centres_16 rfl rfl 0 rfl ?_
  refine j_iconst (pc' := 18) dX11_centres_17 rfl ?_
  obtain ⟨u1, e1, H⟩ := bs H
  obtain ⟨p2, e2, H⟩ := bs H
  refine j_cVi (y := yX11_refuse) (dY := 1) (vs := [vi 1]) (st := []) (q := x0) (pc' := 21) dX11_centres_18 rfl ymX11_refuse yvX11_refuse ml_X11_105 (by decide) rfl (Nat.le_of_ble_eq_true rfl) (Nat.le_of_ble_eq_true rfl) e1 (tX11_refuse x0 1 h ⟨by decide, by decide⟩ e2) (fun r2 z2 => ?_)
  obtain rfl := Option.some.inj H
  exact j_iret dX11_centres_21 r2 ⟨rfl, rfl⟩
noncomputable def fX11_centres (a0 : Nat) (a1 : Int) (h : Hp) : Option (Int × Hp) :=
  if a1 < 1 then (fX11_centres_16 a0 h) else ((getR h 10 a0 0).bind fun v2 => (getI h 6 v2 0).bind fun v3 => if a1 ≤ v3 then ((cob h 10 a0).bind fun _ => (crf h a0).bind fun _ => (fX11_change a0 h).bind fun h7 => (getR h7 10 a0 0).bind fun v8 => (cob h7 6 v8).bind fun _ => (fX7_partByCentres v8 a1 h7).bind fun p10 => some (p10.1, p10.2)) else (fX11_centres_16 a0 h))
theorem tX11_centres {L : Nat} {xs : Nat → Int32} {l : Launch} {res : Int × Hp} (a0 : Nat) (a1 : Int) (h : Hp) (ra1 : R32 a1) (H : fX11_centres a0 a1 h = some res) : J L xs l RX11 cX11_centres 2 false 5 (QI res) 8 515 0 (alv 0 [vr a0, vi a1]) [] h := by
  unfold fX11_centres at H
  show J L xs l RX11 cX11_centres 2 false 5 (QI res) 8 515 0 [(0, vr a0), (1, vi a1)] [] h
  refine j_iload_n (i := 1) (pc' := 1) dX11_centres_0 rfl rfl 1 rfl ?_
  refine j_iconst (pc' := 2) dX11_centres_1 rfl ?_
  refine j_icmp_lt (tgt := 16) (pc' := 5) dX11_centres_2 (by decide) rfl ra1 ⟨by decide, by decide⟩ (fun c1 => ?_) (fun c1 => ?_)
  · rw [if_pos c1] at H
    refine j_sub (lv' := [(0, vr a0)]) [0] rfl ?_
    refine j_rc (rc2 := 0) (rs2 := 0) (by omega) (by omega) ?_
    exact tX11_centres_16   a0 h  H
  · rw [if_neg c1] at H
    refine j_iload_n (i := 1) (pc' := 6) dX11_centres_5 rfl rfl 1 rfl ?_
    refine j_aload_n (i := 0) (pc' := 7) dX11_centres_6 rfl rfl 0 rfl ?_
    obtain ⟨v2, e2, H⟩ := bs H
    refine j_getR (pc' := 10) dX11_centres_7 rfl fl_X11_10 e2 (fun r2 => ?_)
    obtain ⟨v3, e3, H⟩ := bs H
    refine j_getI (pc' := 13) dX11_centres_10 rfl fl_X11_147 e3 (fun r3 => ?_)
    refine j_icmp_le (tgt := 22) (pc' := 16) dX11_centres_13 (by decide) rfl ra1 r3 (fun c4 => ?_) (fun c4 => ?_)
    · rw [if_pos c4] at H
      refine j_aload_n (i := 0) (pc' := 23) dX11_centres_22 rfl rfl 0 rfl ?_
      obtain ⟨u5, e5, H⟩ := bs H
      obtain ⟨u6, e6, H⟩ := bs H
      obtain ⟨h7, e7, H⟩ := bs H
      refine j_aVv (y := yX11_change) (dY := 4) (vs := []) (st := []) (q := a0) (mc := 8) (ms := 515) (rc := 0) (rs := 0) (pc' := 26) dX11_centres_23 rfl ymX11_change yvX11_change ml_X11_95 (by decide) rfl (Nat.le_of_ble_eq_true rfl) (Nat.le_of_ble_eq_true rfl) e5 trivial ⟨(crf_R e6), trivial, trivial⟩ (tX11_change a0 h e7) ?_
      refine j_aload_n (i := 0) (pc' := 27) dX11_centres_26 rfl rfl 0 rfl ?_
      obtain ⟨v8, e8, H⟩ := bs H
      refine j_getR (pc' := 30) dX11_centres_27 rfl fl_X11_10 e8 (fun r8 => ?_)
      refine j_iload_n (i := 1) (pc' := 31) dX11_centres_30 rfl rfl 1 rfl ?_
      obtain ⟨u9, e9, H⟩ := bs H
      obtain ⟨p10, e10, H⟩ := bs H
      refine j_cVi (y := yX7_partByCentres) (dY := 4) (vs := [vi a1]) (st := []) (q := v8) (pc' := 34) dX11_centres_31 rfl ymX7_partByCentres yvX7_partByCentres ml_X11_209 (by decide) rfl (Nat.le_of_ble_eq_true rfl) (Nat.le_of_ble_eq_true rfl) e9 (tX7_partByCentres v8 a1 h7 ra1 e10) (fun r10 z10 => ?_)
      obtain rfl := Option.some.inj H
      exact j_iret dX11_centres_34 r10 ⟨rfl, rfl⟩
    · rw [if_neg c4] at H
      refine j_sub (lv' := [(0, vr a0)]) [0] rfl ?_
      refine j_rc (rc2 := 0) (rs2 := 0) (by omega) (by omega) ?_
      exact tX11_centres_16   a0 h  H
-- X11_third
noncomputable def fX11_third (a0 : Nat) (a1 : Int) (h : Hp) : Option (Int × Hp) :=
  (cob h 10 a0).bind fun _ => (crf h a0).bind fun _ => (fX11_change a0 h).bind fun h3 => (getR h3 10 a0 9).bind fun v4 => (getR h3 10 a0 0).bind fun v5 => (getI h3 6 v5 0).bind fun v6 => (cob h3 1 v4).bind fun _ => (fX2_shuffle v4 a1 v6 h3).bind fun h8 => (getR h8 10 a0 9).bind fun v9 => (getR h8 10 a0 0).bind fun v10 => (cob h8 1 v9).bind fun _ => (fX2_gather v9 v10 h8).bind fun h12 => (getR h12 10 a0 0).bind fun v13 => (getR h12 10 a0 0).bind fun v14 => (getR h12 6 v14 5).bind fun v15 => (fX0_ofParting v13 3 v15 h12).bind fun p16 => some (p16.1, p16.2)
theorem tX11_third {L : Nat} {xs : Nat → Int32} {l : Launch} {res : Int × Hp} (a0 : Nat) (a1 : Int) (h : Hp) (ra1 : R32 a1) (H : fX11_third a0 a1 h = some res) : J L xs l RX11 cX11_third 2 false 6 (QL res) 8 515 0 (alv 0 [vr a0, vi a1]) [] h := by
  unfold fX11_third at H
  show J L xs l RX11 cX11_third 2 false 6 (QL res) 8 515 0 [(0, vr a0), (1, vi a1)] [] h
  refine j_aload_n (i := 0) (pc' := 1) dX11_third_0 rfl rfl 0 rfl ?_
  obtain ⟨u1, e1, H⟩ := bs H
  obtain ⟨u2, e2, H⟩ := bs H
  obtain ⟨h3, e3, H⟩ := bs H
  refine j_aVv (y := yX11_change) (dY := 4) (vs := []) (st := []) (q := a0) (mc := 8) (ms := 515) (rc := 0) (rs := 0) (pc' := 4) dX11_third_1 rfl ymX11_change yvX11_change ml_X11_95 (by decide) rfl (Nat.le_of_ble_eq_true rfl) (Nat.le_of_ble_eq_true rfl) e1 trivial ⟨(crf_R e2), trivial, trivial⟩ (tX11_change a0 h e3) ?_
  refine j_aload_n (i := 0) (pc' := 5) dX11_third_4 rfl rfl 0 rfl ?_
  obtain ⟨v4, e4, H⟩ := bs H
  refine j_getR (pc' := 8) dX11_third_5 rfl fl_X11_72 e4 (fun r4 => ?_)
  refine j_iload_n (i := 1) (pc' := 9) dX11_third_8 rfl rfl 1 rfl ?_
  refine j_aload_n (i := 0) (pc' := 10) dX11_third_9 rfl rfl 0 rfl ?_
  obtain ⟨v5, e5, H⟩ := bs H
  refine j_getR (pc' := 13) dX11_third_10 rfl fl_X11_10 e5 (fun r5 => ?_)
  obtain ⟨v6, e6, H⟩ := bs H
  refine j_getI (pc' := 16) dX11_third_13 rfl fl_X11_147 e6 (fun r6 => ?_)
  obtain ⟨u7, e7, H⟩ := bs H
  obtain ⟨h8, e8, H⟩ := bs H
  refine j_cVv (y := yX2_shuffle) (dY := 1) (vs := [vi a1, vi v6]) (st := []) (q := v4) (pc' := 19) dX11_third_16 rfl ymX2_shuffle yvX2_shuffle ml_X11_212 (by decide) rfl (Nat.le_of_ble_eq_true rfl) (Nat.le_of_ble_eq_true rfl) e7 (tX2_shuffle v4 a1 v6 h3 ra1 r6 e8) (fun z8 => ?_)
  refine j_aload_n (i := 0) (pc' := 20) dX11_third_19 rfl rfl 0 rfl ?_
  obtain ⟨v9, e9, H⟩ := bs H
  refine j_getR (pc' := 23) dX11_third_20 rfl fl_X11_72 e9 (fun r9 => ?_)
  refine j_aload_n (i := 0) (pc' := 24) dX11_third_23 rfl rfl 0 rfl ?_
  obtain ⟨v10, e10, H⟩ := bs H
  refine j_getR (pc' := 27) dX11_third_24 rfl fl_X11_10 e10 (fun r10 => ?_)
  obtain ⟨u11, e11, H⟩ := bs H
  obtain ⟨h12, e12, H⟩ := bs H
  refine j_cVv (y := yX2_gather) (dY := 4) (vs := [vr v10]) (st := []) (q := v9) (pc' := 30) dX11_third_27 rfl ymX2_gather yvX2_gather ml_X11_215 (by decide) rfl (Nat.le_of_ble_eq_true rfl) (Nat.le_of_ble_eq_true rfl) e11 (tX2_gather v9 v10 h8 e12) (fun z12 => ?_)
  refine j_aload_n (i := 0) (pc' := 31) dX11_third_30 rfl rfl 0 rfl ?_
  obtain ⟨v13, e13, H⟩ := bs H
  refine j_getR (pc' := 34) dX11_third_31 rfl fl_X11_10 e13 (fun r13 => ?_)
  refine j_iconst (pc' := 35) dX11_third_34 rfl ?_
  refine j_aload_n (i := 0) (pc' := 36) dX11_third_35 rfl rfl 0 rfl ?_
  obtain ⟨v14, e14, H⟩ := bs H
  refine j_getR (pc' := 39) dX11_third_36 rfl fl_X11_10 e14 (fun r14 => ?_)
  obtain ⟨v15, e15, H⟩ := bs H
  refine j_getR (pc' := 42) dX11_third_39 rfl fl_X11_163 e15 (fun r15 => ?_)
  obtain ⟨p16, e16, H⟩ := bs H
  refine j_cSl (y := yX0_ofParting) (dY := 5) (vs := [vr v13, vi 3, vr v15]) (st := []) (pc' := 45) dX11_third_42 rfl ymX0_ofParting ysX0_ofParting ml_X11_187 (by decide) rfl (Nat.le_of_ble_eq_true rfl) (Nat.le_of_ble_eq_true rfl) (tX0_ofParting v13 3 v15 h12 ⟨by decide, by decide⟩ e16) (fun r16 z16 => ?_)
  obtain rfl := Option.some.inj H
  exact j_lret dX11_third_45 r16 ⟨rfl, rfl⟩
-- X11_thirds
noncomputable def fX11_thirds (a0 : Nat) (h : Hp) : Option (Int × Hp) :=
  (getR h 10 a0 0).bind fun v1 => (getI h 6 v1 0).bind fun v2 => if v2 ≤ 7 then ((putV h 10 a0 11 (vi 0)).bind fun h4 => (getR h4 10 a0 9).bind fun v5 => (getR h4 10 a0 0).bind fun v6 => (cob h4 1 v5).bind fun _ => (fX2_sumOverOrders v5 v6 h4).bind fun p8 => some (p8.1, p8.2)) else ((cob h 10 a0).bind fun _ => (fX11_refuse a0 3 h).bind fun p10 => some (p10.1, p10.2))
theorem tX11_thirds {L : Nat} {xs : Nat → Int32} {l : Launch} {res : Int × Hp} (a0 : Nat) (h : Hp)  (H : fX11_thirds a0 h = some res) : J L xs l RX11 cX11_thirds 1 false 6 (QL res) 0 0 0 (alv 0 [vr a0]) [] h := by
  unfold fX11_thirds at H
  show J L xs l RX11 cX11_thirds 1 false 6 (QL res) 0 0 0 [(0, vr a0)] [] h
  refine j_aload_n (i := 0) (pc' := 1) dX11_thirds_0 rfl rfl 0 rfl ?_
  obtain ⟨v1, e1, H⟩ := bs H
  refine j_getR (pc' := 4) dX11_thirds_1 rfl fl_X11_10 e1 (fun r1 => ?_)
  obtain ⟨v2, e2, H⟩ := bs H
  refine j_getI (pc' := 7) dX11_thirds_4 rfl fl_X11_147 e2 (fun r2 => ?_)
  refine j_bipush (pc' := 9) dX11_thirds_7 rfl (by decide +kernel) ?_
  refine j_icmp_le (tgt := 19) (pc' := 12) dX11_thirds_9 (by decide) rfl r2 ⟨by decide, by decide⟩ (fun c3 => ?_) (fun c3 => ?_)
  · rw [if_pos c3] at H
    refine j_aload_n (i := 0) (pc' := 20) dX11_thirds_19 rfl rfl 0 rfl ?_
    refine j_iconst (pc' := 21) dX11_thirds_20 rfl ?_
    obtain ⟨h4, e4, H⟩ := bs H
    refine j_putV (pc' := 24) dX11_thirds_21 rfl fp_X11_83 tI ⟨by decide, by decide⟩ e4 ?_
    refine j_aload_n (i := 0) (pc' := 25) dX11_thirds_24 rfl rfl 0 rfl ?_
    obtain ⟨v5, e5, H⟩ := bs H
    refine j_getR (pc' := 28) dX11_thirds_25 rfl fl_X11_72 e5 (fun r5 => ?_)
    refine j_aload_n (i := 0) (pc' := 29) dX11_thirds_28 rfl rfl 0 rfl ?_
    obtain ⟨v6, e6, H⟩ := bs H
    refine j_getR (pc' := 32) dX11_thirds_29 rfl fl_X11_10 e6 (fun r6 => ?_)
    obtain ⟨u7, e7, H⟩ := bs H
    obtain ⟨p8, e8, H⟩ := bs H
    refine j_cVl (y := yX2_sumOverOrders) (dY := 5) (vs := [vr v6]) (st := []) (q := v5) (pc' := 35) dX11_thirds_32 rfl ymX2_sumOverOrders yvX2_sumOverOrders ml_X11_219 (by decide) rfl (Nat.le_of_ble_eq_true rfl) (Nat.le_of_ble_eq_true rfl) e7 (tX2_sumOverOrders v5 v6 h4 e8) (fun r8 z8 => ?_)
    obtain rfl := Option.some.inj H
    exact j_lret dX11_thirds_35 r8 ⟨rfl, rfl⟩
  · rw [if_neg c3] at H
    refine j_aload_n (i := 0) (pc' := 13) dX11_thirds_12 rfl rfl 0 rfl ?_
    refine j_iconst (pc' := 14) dX11_thirds_13 rfl ?_
    obtain ⟨u9, e9, H⟩ := bs H
    obtain ⟨p10, e10, H⟩ := bs H
    refine j_cVi (y := yX11_refuse) (dY := 1) (vs := [vi 3]) (st := []) (q := a0) (pc' := 17) dX11_thirds_14 rfl ymX11_refuse yvX11_refuse ml_X11_105 (by decide) rfl (Nat.le_of_ble_eq_true rfl) (Nat.le_of_ble_eq_true rfl) e9 (tX11_refuse a0 3 h ⟨by decide, by decide⟩ e10) (fun r10 z10 => ?_)
    refine j_i2l (pc' := 18) dX11_thirds_17 rfl r10 ?_
    obtain rfl := Option.some.inj H
    exact j_lret dX11_thirds_18 (R32_l r10) ⟨rfl, rfl⟩
-- X11_rounds
noncomputable def fX11_rounds (a0 : Nat) (h : Hp) : Option (Int × Hp) :=
  (putV h 10 a0 11 (vi 0)).bind fun h1 => (getR h1 10 a0 0).bind fun v2 => (fX2_brokenRounds v2 h1).bind fun p3 => some (p3.1, p3.2)
theorem tX11_rounds {L : Nat} {xs : Nat → Int32} {l : Launch} {res : Int × Hp} (a0 : Nat) (h : Hp)  (H : fX11_rounds a0 h = some res) : J L xs l RX11 cX11_rounds 1 false 4 (QI res) 0 0 0 (alv 0 [vr a0]) [] h := by
  unfold fX11_rounds at H
  show J L xs l RX11 cX11_rounds 1 false 4 (QI res) 0 0 0 [(0, vr a0)] [] h
  refine j_aload_n (i := 0) (pc' := 1) dX11_rounds_0 rfl rfl 0 rfl ?_
  refine j_iconst (pc' := 2) dX11_rounds_1 rfl ?_
  obtain ⟨h1, e1, H⟩ := bs H
  refine j_putV (pc' := 5) dX11_rounds_2 rfl fp_X11_83 tI ⟨by decide, by decide⟩ e1 ?_
  refine j_aload_n (i := 0) (pc' := 6) dX11_rounds_5 rfl rfl 0 rfl ?_
  obtain ⟨v2, e2, H⟩ := bs H
  refine j_getR (pc' := 9) dX11_rounds_6 rfl fl_X11_10 e2 (fun r2 => ?_)
  obtain ⟨p3, e3, H⟩ := bs H
  refine j_cSi (y := yX2_brokenRounds) (dY := 3) (vs := [vr v2]) (st := []) (pc' := 12) dX11_rounds_9 rfl ymX2_brokenRounds ysX2_brokenRounds ml_X11_223 (by decide) rfl (Nat.le_of_ble_eq_true rfl) (Nat.le_of_ble_eq_true rfl) (tX2_brokenRounds v2 h1 e3) (fun r3 z3 => ?_)
  obtain rfl := Option.some.inj H
  exact j_iret dX11_rounds_12 r3 ⟨rfl, rfl⟩
-- X11_tree
noncomputable def fX11_tree_9 (x0 : Nat) (h : Hp) : Option (Int × Hp) :=
  (cob h 10 x0).bind fun _ => (fX11_refuse x0 1 h).bind fun p2 => some (p2.1, p2.2)
theorem tX11_tree_9 {L : Nat} {xs : Nat → Int32} {l : Launch} {res : Int × Hp} (x0 : Nat) (h : Hp)  (H : fX11_tree_9 x0 h = some res) : J L xs l RX11 cX11_tree 2 false 4 (QI res) 0 0 9 [(0, vr x0)] [] h := by
  unfold fX11_tree_9 at H
  refine j_aload_n (i := 0) (pc' := 10) dX11_tree_9 rfl rfl 0 rfl ?_
  refine j_iconst (pc' := 11) dX11_tree_10 rfl ?_
  obtain ⟨u1, e1, H⟩ := bs H
  obtain ⟨p2, e2, H⟩ := bs H
  refine j_cVi (y := yX11_refuse) (dY := 1) (vs := [vi 1]) (st := []) (q := x0) (pc' := 14) dX11_tree_11 rfl ymX11_refuse yvX11_refuse ml_X11_105 (by decide) rfl (Nat.le_of_ble_eq_true rfl) (Nat.le_of_ble_eq_true rfl) e1 (tX11_refuse x0 1 h ⟨by decide, by decide⟩ e2) (fun r2 z2 => ?_)
  obtain rfl := Option.some.inj H
  exact j_iret dX11_tree_14 r2 ⟨rfl, rfl⟩
noncomputable def fX11_tree (a0 : Nat) (a1 : Int) (h : Hp) : Option (Int × Hp) :=
  if a1 < 0 then (fX11_tree_9 a0 h) else (if a1 ≤ 1 then ((putV h 10 a0 11 (vi 0)).bind fun h3 => (getR h3 10 a0 3).bind fun v4 => (getR h3 10 a0 0).bind fun v5 => (cob h3 9 v4).bind fun _ => (fX10_grow v4 v5 a1 h3).bind fun h7 => (getR h7 10 a0 3).bind fun v8 => (getI h7 9 v8 0).bind fun v9 => some (v9, h7)) else (fX11_tree_9 a0 h))
theorem tX11_tree {L : Nat} {xs : Nat → Int32} {l : Launch} {res : Int × Hp} (a0 : Nat) (a1 : Int) (h : Hp) (ra1 : R32 a1) (H : fX11_tree a0 a1 h = some res) : J L xs l RX11 cX11_tree 2 false 4 (QI res) 0 0 0 (alv 0 [vr a0, vi a1]) [] h := by
  unfold fX11_tree at H
  show J L xs l RX11 cX11_tree 2 false 4 (QI res) 0 0 0 [(0, vr a0), (1, vi a1)] [] h
  refine j_iload_n (i := 1) (pc' := 1) dX11_tree_0 rfl rfl 1 rfl ?_
  refine j_if_lt (tgt := 9) (pc' := 4) dX11_tree_1 (by decide) rfl ra1 (fun c1 => ?_) (fun c1 => ?_)
  · rw [if_pos c1] at H
    refine j_sub (lv' := [(0, vr a0)]) [0] rfl ?_
    exact tX11_tree_9   a0 h  H
  · rw [if_neg c1] at H
    refine j_iload_n (i := 1) (pc' := 5) dX11_tree_4 rfl rfl 1 rfl ?_
    refine j_iconst (pc' := 6) dX11_tree_5 rfl ?_
    refine j_icmp_le (tgt := 15) (pc' := 9) dX11_tree_6 (by decide) rfl ra1 ⟨by decide, by decide⟩ (fun c2 => ?_) (fun c2 => ?_)
    · rw [if_pos c2] at H
      refine j_aload_n (i := 0) (pc' := 16) dX11_tree_15 rfl rfl 0 rfl ?_
      refine j_iconst (pc' := 17) dX11_tree_16 rfl ?_
      obtain ⟨h3, e3, H⟩ := bs H
      refine j_putV (pc' := 20) dX11_tree_17 rfl fp_X11_83 tI ⟨by decide, by decide⟩ e3 ?_
      refine j_aload_n (i := 0) (pc' := 21) dX11_tree_20 rfl rfl 0 rfl ?_
      obtain ⟨v4, e4, H⟩ := bs H
      refine j_getR (pc' := 24) dX11_tree_21 rfl fl_X11_33 e4 (fun r4 => ?_)
      refine j_aload_n (i := 0) (pc' := 25) dX11_tree_24 rfl rfl 0 rfl ?_
      obtain ⟨v5, e5, H⟩ := bs H
      refine j_getR (pc' := 28) dX11_tree_25 rfl fl_X11_10 e5 (fun r5 => ?_)
      refine j_iload_n (i := 1) (pc' := 29) dX11_tree_28 rfl rfl 1 rfl ?_
      obtain ⟨u6, e6, H⟩ := bs H
      obtain ⟨h7, e7, H⟩ := bs H
      refine j_cVv (y := yX10_grow) (dY := 3) (vs := [vr v5, vi a1]) (st := []) (q := v4) (pc' := 32) dX11_tree_29 rfl ymX10_grow yvX10_grow ml_X11_227 (by decide) rfl (Nat.le_of_ble_eq_true rfl) (Nat.le_of_ble_eq_true rfl) e6 (tX10_grow v4 v5 a1 h3 ra1 e7) (fun z7 => ?_)
      refine j_aload_n (i := 0) (pc' := 33) dX11_tree_32 rfl rfl 0 rfl ?_
      obtain ⟨v8, e8, H⟩ := bs H
      refine j_getR (pc' := 36) dX11_tree_33 rfl fl_X11_33 e8 (fun r8 => ?_)
      obtain ⟨v9, e9, H⟩ := bs H
      refine j_getI (pc' := 39) dX11_tree_36 rfl fl_X11_176 e9 (fun r9 => ?_)
      obtain rfl := Option.some.inj H
      exact j_iret dX11_tree_39 r9 ⟨rfl, rfl⟩
    · rw [if_neg c2] at H
      refine j_sub (lv' := [(0, vr a0)]) [0] rfl ?_
      exact tX11_tree_9   a0 h  H
-- X11_joined
noncomputable def fX11_joined_32 (x0 : Nat) (h : Hp) : Option (Int × Hp) :=
  (cob h 10 x0).bind fun _ => (fX11_refuse x0 1 h).bind fun p2 => some (p2.1, p2.2)
theorem tX11_joined_32 {L : Nat} {xs : Nat → Int32} {l : Launch} {res : Int × Hp} (x0 : Nat) (h : Hp)  (H : fX11_joined_32 x0 h = some res) : J L xs l RX11 cX11_joined 3 false 2 (QI res) 0 0 32 [(0, vr x0)] [] h := by
  unfold fX11_joined_32 at H
  refine j_aload_n (i := 0) (pc' := 33) dX11_joined_32 rfl rfl 0 rfl ?_
  refine j_iconst (pc' := 34) dX11_joined_33 rfl ?_
  obtain ⟨u1, e1, H⟩ := bs H
  obtain ⟨p2, e2, H⟩ := bs H
  refine j_cVi (y := yX11_refuse) (dY := 1) (vs := [vi 1]) (st := []) (q := x0) (pc' := 37) dX11_joined_34 rfl ymX11_refuse yvX11_refuse ml_X11_105 (by decide) rfl (Nat.le_of_ble_eq_true rfl) (Nat.le_of_ble_eq_true rfl) e1 (tX11_refuse x0 1 h ⟨by decide, by decide⟩ e2) (fun r2 z2 => ?_)
  obtain rfl := Option.some.inj H
  exact j_iret dX11_joined_37 r2 ⟨rfl, rfl⟩
noncomputable def fX11_joined (a0 : Nat) (a1 : Int) (a2 : Int) (h : Hp) : Option (Int × Hp) :=
  (getR h 10 a0 3).bind fun v1 => (getI h 9 v1 0).bind fun v2 => if v2 = (-1) then ((cob h 10 a0).bind fun _ => (fX11_refuse a0 2 h).bind fun p24 => some (p24.1, p24.2)) else (if a1 < 0 then (fX11_joined_32 a0 h) else ((getR h 10 a0 3).bind fun v5 => (getI h 9 v5 0).bind fun v6 => if a1 < v6 then ((putV h 10 a0 11 (vi 0)).bind fun h8 => if a2 = 0 then ((getR h8 10 a0 3).bind fun v10 => (getR h8 9 v10 2).bind fun v11 => (ald h8 0 v11 a1).bind fun v12 => some (v12, h8)) else if a2 = 1 then ((getR h8 10 a0 3).bind fun v14 => (getR h8 9 v14 3).bind fun v15 => (ald h8 0 v15 a1).bind fun v16 => some (v16, h8)) else if a2 = 2 then ((getR h8 10 a0 3).bind fun v18 => (getR h8 9 v18 4).bind fun v19 => (ald h8 0 v19 a1).bind fun v20 => some (v20, h8)) else ((cob h8 10 a0).bind fun _ => (fX11_refuse a0 1 h8).bind fun p22 => some (p22.1, p22.2))) else (fX11_joined_32 a0 h)))
theorem tX11_joined {L : Nat} {xs : Nat → Int32} {l : Launch} {res : Int × Hp} (a0 : Nat) (a1 : Int) (a2 : Int) (h : Hp) (ra1 : R32 a1) (ra2 : R32 a2) (H : fX11_joined a0 a1 a2 h = some res) : J L xs l RX11 cX11_joined 3 false 2 (QI res) 0 0 0 (alv 0 [vr a0, vi a1, vi a2]) [] h := by
  unfold fX11_joined at H
  show J L xs l RX11 cX11_joined 3 false 2 (QI res) 0 0 0 [(0, vr a0), (1, vi a1), (2, vi a2)] [] h
  refine j_aload_n (i := 0) (pc' := 1) dX11_joined_0 rfl rfl 0 rfl ?_
  obtain ⟨v1, e1, H⟩ := bs H
  refine j_getR (pc' := 4) dX11_joined_1 rfl fl_X11_33 e1 (fun r1 => ?_)
  obtain ⟨v2, e2, H⟩ := bs H
  refine j_getI (pc' := 7) dX11_joined_4 rfl fl_X11_176 e2 (fun r2 => ?_)
  refine j_iconst (pc' := 8) dX11_joined_7 rfl ?_
  refine j_icmp_ne (tgt := 17) (pc' := 11) dX11_joined_8 (by decide) rfl r2 ⟨by decide, by decide⟩ (fun c3 => ?_) (fun c3 => ?_)
  · rw [if_neg c3] at H
    refine j_iload_n (i := 1) (pc' := 18) dX11_joined_17 rfl rfl 1 rfl ?_
    refine j_if_lt (tgt := 32) (pc' := 21) dX11_joined_18 (by decide) rfl ra1 (fun c4 => ?_) (fun c4 => ?_)
    · rw [if_pos c4] at H
      refine j_sub (lv' := [(0, vr a0)]) [0] rfl ?_
      exact tX11_joined_32   a0 h  H
    · rw [if_neg c4] at H
      refine j_iload_n (i := 1) (pc' := 22) dX11_joined_21 rfl rfl 1 rfl ?_
      refine j_aload_n (i := 0) (pc' := 23) dX11_joined_22 rfl rfl 0 rfl ?_
      obtain ⟨v5, e5, H⟩ := bs H
      refine j_getR (pc' := 26) dX11_joined_23 rfl fl_X11_33 e5 (fun r5 => ?_)
      obtain ⟨v6, e6, H⟩ := bs H
      refine j_getI (pc' := 29) dX11_joined_26 rfl fl_X11_176 e6 (fun r6 => ?_)
      refine j_icmp_lt (tgt := 38) (pc' := 32) dX11_joined_29 (by decide) rfl ra1 r6 (fun c7 => ?_) (fun c7 => ?_)
      · rw [if_pos c7] at H
        refine j_aload_n (i := 0) (pc' := 39) dX11_joined_38 rfl rfl 0 rfl ?_
        refine j_iconst (pc' := 40) dX11_joined_39 rfl ?_
        obtain ⟨h8, e8, H⟩ := bs H
        refine j_putV (pc' := 43) dX11_joined_40 rfl fp_X11_83 tI ⟨by decide, by decide⟩ e8 ?_
        refine j_iload_n (i := 2) (pc' := 44) dX11_joined_43 rfl rfl 2 rfl ?_
        by_cases c9 : a2 = 0
        · rw [if_pos c9] at H
          refine j_tabIn (tgt := 72) (off := 28) dX11_joined_44 ra2 (by omega) (by omega) (by rw [c9]; rfl) (by decide) ?_
          refine j_aload_n (i := 0) (pc' := 73) dX11_joined_72 rfl rfl 0 rfl ?_
          obtain ⟨v10, e10, H⟩ := bs H
          refine j_getR (pc' := 76) dX11_joined_73 rfl fl_X11_33 e10 (fun r10 => ?_)
          obtain ⟨v11, e11, H⟩ := bs H
          refine j_getR (pc' := 79) dX11_joined_76 rfl fl_X11_231 e11 (fun r11 => ?_)
          refine j_iload_n (i := 1) (pc' := 80) dX11_joined_79 rfl rfl 1 rfl ?_
          obtain ⟨v12, e12, H⟩ := bs H
          refine j_iald (pc' := 81) dX11_joined_80 rfl e12 (fun r12 => ?_)
          obtain rfl := Option.some.inj H
          exact j_iret dX11_joined_81 r12 ⟨rfl, rfl⟩
        rw [if_neg c9] at H
        by_cases c13 : a2 = 1
        · rw [if_pos c13] at H
          refine j_tabIn (tgt := 82) (off := 38) dX11_joined_44 ra2 (by omega) (by omega) (by rw [c13]; rfl) (by decide) ?_
          refine j_aload_n (i := 0) (pc' := 83) dX11_joined_82 rfl rfl 0 rfl ?_
          obtain ⟨v14, e14, H⟩ := bs H
          refine j_getR (pc' := 86) dX11_joined_83 rfl fl_X11_33 e14 (fun r14 => ?_)
          obtain ⟨v15, e15, H⟩ := bs H
          refine j_getR (pc' := 89) dX11_joined_86 rfl fl_X11_234 e15 (fun r15 => ?_)
          refine j_iload_n (i := 1) (pc' := 90) dX11_joined_89 rfl rfl 1 rfl ?_
          obtain ⟨v16, e16, H⟩ := bs H
          refine j_iald (pc' := 91) dX11_joined_90 rfl e16 (fun r16 => ?_)
          obtain rfl := Option.some.inj H
          exact j_iret dX11_joined_91 r16 ⟨rfl, rfl⟩
        rw [if_neg c13] at H
        by_cases c17 : a2 = 2
        · rw [if_pos c17] at H
          refine j_tabIn (tgt := 92) (off := 48) dX11_joined_44 ra2 (by omega) (by omega) (by rw [c17]; rfl) (by decide) ?_
          refine j_aload_n (i := 0) (pc' := 93) dX11_joined_92 rfl rfl 0 rfl ?_
          obtain ⟨v18, e18, H⟩ := bs H
          refine j_getR (pc' := 96) dX11_joined_93 rfl fl_X11_33 e18 (fun r18 => ?_)
          obtain ⟨v19, e19, H⟩ := bs H
          refine j_getR (pc' := 99) dX11_joined_96 rfl fl_X11_237 e19 (fun r19 => ?_)
          refine j_iload_n (i := 1) (pc' := 100) dX11_joined_99 rfl rfl 1 rfl ?_
          obtain ⟨v20, e20, H⟩ := bs H
          refine j_iald (pc' := 101) dX11_joined_100 rfl e20 (fun r20 => ?_)
          obtain rfl := Option.some.inj H
          exact j_iret dX11_joined_101 r20 ⟨rfl, rfl⟩
        rw [if_neg c17] at H
        refine j_tabOut (tgt := 102) dX11_joined_44 ra2 (by omega) (by decide) ?_
        refine j_aload_n (i := 0) (pc' := 103) dX11_joined_102 rfl rfl 0 rfl ?_
        refine j_iconst (pc' := 104) dX11_joined_103 rfl ?_
        obtain ⟨u21, e21, H⟩ := bs H
        obtain ⟨p22, e22, H⟩ := bs H
        refine j_cVi (y := yX11_refuse) (dY := 1) (vs := [vi 1]) (st := []) (q := a0) (pc' := 107) dX11_joined_104 rfl ymX11_refuse yvX11_refuse ml_X11_105 (by decide) rfl (Nat.le_of_ble_eq_true rfl) (Nat.le_of_ble_eq_true rfl) e21 (tX11_refuse a0 1 h8 ⟨by decide, by decide⟩ e22) (fun r22 z22 => ?_)
        obtain rfl := Option.some.inj H
        exact j_iret dX11_joined_107 r22 ⟨rfl, rfl⟩
      · rw [if_neg c7] at H
        refine j_sub (lv' := [(0, vr a0)]) [0] rfl ?_
        exact tX11_joined_32   a0 h  H
  · rw [if_pos c3] at H
    refine j_aload_n (i := 0) (pc' := 12) dX11_joined_11 rfl rfl 0 rfl ?_
    refine j_iconst (pc' := 13) dX11_joined_12 rfl ?_
    obtain ⟨u23, e23, H⟩ := bs H
    obtain ⟨p24, e24, H⟩ := bs H
    refine j_cVi (y := yX11_refuse) (dY := 1) (vs := [vi 2]) (st := []) (q := a0) (pc' := 16) dX11_joined_13 rfl ymX11_refuse yvX11_refuse ml_X11_105 (by decide) rfl (Nat.le_of_ble_eq_true rfl) (Nat.le_of_ble_eq_true rfl) e23 (tX11_refuse a0 2 h ⟨by decide, by decide⟩ e24) (fun r24 z24 => ?_)
    obtain rfl := Option.some.inj H
    exact j_iret dX11_joined_16 r24 ⟨rfl, rfl⟩
-- X11_height
noncomputable def fX11_height_16 (x0 : Nat) (h : Hp) : Option (Int × Hp) :=
  (cob h 10 x0).bind fun _ => (fX11_refuse x0 1 h).bind fun p2 => some (p2.1, p2.2)
theorem tX11_height_16 {L : Nat} {xs : Nat → Int32} {l : Launch} {res : Int × Hp} (x0 : Nat) (h : Hp)  (H : fX11_height_16 x0 h = some res) : J L xs l RX11 cX11_height 3 false 2 (QI res) 0 0 16 [(0, vr x0)] [] h := by
  unfold fX11_height_16 at H
  refine j_aload_n (i := 0) (pc' := 17) dX11_height_16 rfl rfl 0 rfl ?_
  refine j_iconst (pc' := 18) dX11_height_17 rfl ?_
  obtain ⟨u1, e1, H⟩ := bs H
  obtain ⟨p2, e2, H⟩ := bs H
  refine j_cVi (y := yX11_refuse) (dY := 1) (vs := [vi 1]) (st := []) (q := x0) (pc' := 21) dX11_height_18 rfl ymX11_refuse yvX11_refuse ml_X11_105 (by decide) rfl (Nat.le_of_ble_eq_true rfl) (Nat.le_of_ble_eq_true rfl) e1 (tX11_refuse x0 1 h ⟨by decide, by decide⟩ e2) (fun r2 z2 => ?_)
  obtain rfl := Option.some.inj H
  exact j_iret dX11_height_21 r2 ⟨rfl, rfl⟩
noncomputable def fX11_height (a0 : Nat) (a1 : Int) (a2 : Int) (h : Hp) : Option (Int × Hp) :=
  (cob h 10 a0).bind fun _ => (fX11_isThing a0 a1 h).bind fun p2 => if p2.1 = 0 then (fX11_height_16 a0 p2.2) else ((cob p2.2 10 a0).bind fun _ => (fX11_isThing a0 a2 p2.2).bind fun p5 => if p5.1 = 0 then (fX11_height_16 a0 p5.2) else ((getR p5.2 10 a0 3).bind fun v7 => (getI p5.2 9 v7 0).bind fun v8 => if v8 = (-1) then ((cob p5.2 10 a0).bind fun _ => (fX11_refuse a0 2 p5.2).bind fun p15 => some (p15.1, p15.2)) else ((putV p5.2 10 a0 11 (vi 0)).bind fun h10 => (getR h10 10 a0 3).bind fun v11 => (cob h10 9 v11).bind fun _ => (fX10_heightOf v11 a1 a2 h10).bind fun p13 => some (p13.1, p13.2))))
theorem tX11_height {L : Nat} {xs : Nat → Int32} {l : Launch} {res : Int × Hp} (a0 : Nat) (a1 : Int) (a2 : Int) (h : Hp) (ra1 : R32 a1) (ra2 : R32 a2) (H : fX11_height a0 a1 a2 h = some res) : J L xs l RX11 cX11_height 3 false 2 (QI res) 0 0 0 (alv 0 [vr a0, vi a1, vi a2]) [] h := by
  unfold fX11_height at H
  show J L xs l RX11 cX11_height 3 false 2 (QI res) 0 0 0 [(0, vr a0), (1, vi a1), (2, vi a2)] [] h
  refine j_aload_n (i := 0) (pc' := 1) dX11_height_0 rfl rfl 0 rfl ?_
  refine j_iload_n (i := 1) (pc' := 2) dX11_height_1 rfl rfl 1 rfl ?_
  obtain ⟨u1, e1, H⟩ := bs H
  obtain ⟨p2, e2, H⟩ := bs H
  refine j_cVb (y := yX11_isThing) (dY := 1) (vs := [vi a1]) (st := []) (q := a0) (pc' := 5) dX11_height_2 rfl ymX11_isThing yvX11_isThing ml_X11_131 (by decide) rfl (Nat.le_of_ble_eq_true rfl) (Nat.le_of_ble_eq_true rfl) e1 (tX11_isThing a0 a1 h ra1 e2) (fun r2 b2 z2 => ?_)
  refine j_if_eq (tgt := 16) (pc' := 8) dX11_height_5 (by decide) rfl r2 (fun c3 => ?_) (fun c3 => ?_)
  · rw [if_pos c3] at H
    refine j_sub (lv' := [(0, vr a0)]) [0] rfl ?_
    exact tX11_height_16   a0 p2.2  H
  · rw [if_neg c3] at H
    refine j_aload_n (i := 0) (pc' := 9) dX11_height_8 rfl rfl 0 rfl ?_
    refine j_iload_n (i := 2) (pc' := 10) dX11_height_9 rfl rfl 2 rfl ?_
    obtain ⟨u4, e4, H⟩ := bs H
    obtain ⟨p5, e5, H⟩ := bs H
    refine j_cVb (y := yX11_isThing) (dY := 1) (vs := [vi a2]) (st := []) (q := a0) (pc' := 13) dX11_height_10 rfl ymX11_isThing yvX11_isThing ml_X11_131 (by decide) rfl (Nat.le_of_ble_eq_true rfl) (Nat.le_of_ble_eq_true rfl) e4 (tX11_isThing a0 a2 p2.2 ra2 e5) (fun r5 b5 z5 => ?_)
    refine j_if_ne (tgt := 22) (pc' := 16) dX11_height_13 (by decide) rfl r5 (fun c6 => ?_) (fun c6 => ?_)
    · rw [if_neg c6] at H
      refine j_aload_n (i := 0) (pc' := 23) dX11_height_22 rfl rfl 0 rfl ?_
      obtain ⟨v7, e7, H⟩ := bs H
      refine j_getR (pc' := 26) dX11_height_23 rfl fl_X11_33 e7 (fun r7 => ?_)
      obtain ⟨v8, e8, H⟩ := bs H
      refine j_getI (pc' := 29) dX11_height_26 rfl fl_X11_176 e8 (fun r8 => ?_)
      refine j_iconst (pc' := 30) dX11_height_29 rfl ?_
      refine j_icmp_ne (tgt := 39) (pc' := 33) dX11_height_30 (by decide) rfl r8 ⟨by decide, by decide⟩ (fun c9 => ?_) (fun c9 => ?_)
      · rw [if_neg c9] at H
        refine j_aload_n (i := 0) (pc' := 40) dX11_height_39 rfl rfl 0 rfl ?_
        refine j_iconst (pc' := 41) dX11_height_40 rfl ?_
        obtain ⟨h10, e10, H⟩ := bs H
        refine j_putV (pc' := 44) dX11_height_41 rfl fp_X11_83 tI ⟨by decide, by decide⟩ e10 ?_
        refine j_aload_n (i := 0) (pc' := 45) dX11_height_44 rfl rfl 0 rfl ?_
        obtain ⟨v11, e11, H⟩ := bs H
        refine j_getR (pc' := 48) dX11_height_45 rfl fl_X11_33 e11 (fun r11 => ?_)
        refine j_iload_n (i := 1) (pc' := 49) dX11_height_48 rfl rfl 1 rfl ?_
        refine j_iload_n (i := 2) (pc' := 50) dX11_height_49 rfl rfl 2 rfl ?_
        obtain ⟨u12, e12, H⟩ := bs H
        obtain ⟨p13, e13, H⟩ := bs H
        refine j_cVi (y := yX10_heightOf) (dY := 1) (vs := [vi a1, vi a2]) (st := []) (q := v11) (pc' := 53) dX11_height_50 rfl ymX10_heightOf yvX10_heightOf ml_X11_240 (by decide) rfl (Nat.le_of_ble_eq_true rfl) (Nat.le_of_ble_eq_true rfl) e12 (tX10_heightOf v11 a1 a2 h10 ra1 ra2 e13) (fun r13 z13 => ?_)
        obtain rfl := Option.some.inj H
        exact j_iret dX11_height_53 r13 ⟨rfl, rfl⟩
      · rw [if_pos c9] at H
        refine j_aload_n (i := 0) (pc' := 34) dX11_height_33 rfl rfl 0 rfl ?_
        refine j_iconst (pc' := 35) dX11_height_34 rfl ?_
        obtain ⟨u14, e14, H⟩ := bs H
        obtain ⟨p15, e15, H⟩ := bs H
        refine j_cVi (y := yX11_refuse) (dY := 1) (vs := [vi 2]) (st := []) (q := a0) (pc' := 38) dX11_height_35 rfl ymX11_refuse yvX11_refuse ml_X11_105 (by decide) rfl (Nat.le_of_ble_eq_true rfl) (Nat.le_of_ble_eq_true rfl) e14 (tX11_refuse a0 2 p5.2 ⟨by decide, by decide⟩ e15) (fun r15 z15 => ?_)
        obtain rfl := Option.some.inj H
        exact j_iret dX11_height_38 r15 ⟨rfl, rfl⟩
    · rw [if_pos c6] at H
      refine j_sub (lv' := [(0, vr a0)]) [0] rfl ?_
      exact tX11_height_16   a0 p5.2  H
-- X11_cut
noncomputable def fX11_cut (a0 : Nat) (a1 : Int) (h : Hp) : Option (Int × Hp) :=
  (getR h 10 a0 3).bind fun v1 => (getI h 9 v1 0).bind fun v2 => if v2 = (-1) then ((cob h 10 a0).bind fun _ => (fX11_refuse a0 2 h).bind fun p16 => some (p16.1, p16.2)) else ((cob h 10 a0).bind fun _ => (crf h a0).bind fun _ => (fX11_change a0 h).bind fun h6 => (getR h6 10 a0 3).bind fun v7 => (getR h6 10 a0 0).bind fun v8 => (getR h6 6 v8 5).bind fun v9 => (cob h6 9 v7).bind fun _ => (fX10_partBelow v7 a1 v9 h6).bind fun h11 => (getR h11 10 a0 0).bind fun v12 => (getR h11 6 v12 5).bind fun v13 => (getI h11 5 v13 1).bind fun v14 => some (v14, h11))
theorem tX11_cut {L : Nat} {xs : Nat → Int32} {l : Launch} {res : Int × Hp} (a0 : Nat) (a1 : Int) (h : Hp) (ra1 : R32 a1) (H : fX11_cut a0 a1 h = some res) : J L xs l RX11 cX11_cut 2 false 5 (QI res) 8 515 0 (alv 0 [vr a0, vi a1]) [] h := by
  unfold fX11_cut at H
  show J L xs l RX11 cX11_cut 2 false 5 (QI res) 8 515 0 [(0, vr a0), (1, vi a1)] [] h
  refine j_aload_n (i := 0) (pc' := 1) dX11_cut_0 rfl rfl 0 rfl ?_
  obtain ⟨v1, e1, H⟩ := bs H
  refine j_getR (pc' := 4) dX11_cut_1 rfl fl_X11_33 e1 (fun r1 => ?_)
  obtain ⟨v2, e2, H⟩ := bs H
  refine j_getI (pc' := 7) dX11_cut_4 rfl fl_X11_176 e2 (fun r2 => ?_)
  refine j_iconst (pc' := 8) dX11_cut_7 rfl ?_
  refine j_icmp_ne (tgt := 17) (pc' := 11) dX11_cut_8 (by decide) rfl r2 ⟨by decide, by decide⟩ (fun c3 => ?_) (fun c3 => ?_)
  · rw [if_neg c3] at H
    refine j_aload_n (i := 0) (pc' := 18) dX11_cut_17 rfl rfl 0 rfl ?_
    obtain ⟨u4, e4, H⟩ := bs H
    obtain ⟨u5, e5, H⟩ := bs H
    obtain ⟨h6, e6, H⟩ := bs H
    refine j_aVv (y := yX11_change) (dY := 4) (vs := []) (st := []) (q := a0) (mc := 8) (ms := 515) (rc := 0) (rs := 0) (pc' := 21) dX11_cut_18 rfl ymX11_change yvX11_change ml_X11_95 (by decide) rfl (Nat.le_of_ble_eq_true rfl) (Nat.le_of_ble_eq_true rfl) e4 trivial ⟨(crf_R e5), trivial, trivial⟩ (tX11_change a0 h e6) ?_
    refine j_aload_n (i := 0) (pc' := 22) dX11_cut_21 rfl rfl 0 rfl ?_
    obtain ⟨v7, e7, H⟩ := bs H
    refine j_getR (pc' := 25) dX11_cut_22 rfl fl_X11_33 e7 (fun r7 => ?_)
    refine j_iload_n (i := 1) (pc' := 26) dX11_cut_25 rfl rfl 1 rfl ?_
    refine j_aload_n (i := 0) (pc' := 27) dX11_cut_26 rfl rfl 0 rfl ?_
    obtain ⟨v8, e8, H⟩ := bs H
    refine j_getR (pc' := 30) dX11_cut_27 rfl fl_X11_10 e8 (fun r8 => ?_)
    obtain ⟨v9, e9, H⟩ := bs H
    refine j_getR (pc' := 33) dX11_cut_30 rfl fl_X11_163 e9 (fun r9 => ?_)
    obtain ⟨u10, e10, H⟩ := bs H
    obtain ⟨h11, e11, H⟩ := bs H
    refine j_cVv (y := yX10_partBelow) (dY := 3) (vs := [vi a1, vr v9]) (st := []) (q := v7) (pc' := 36) dX11_cut_33 rfl ymX10_partBelow yvX10_partBelow ml_X11_243 (by decide) rfl (Nat.le_of_ble_eq_true rfl) (Nat.le_of_ble_eq_true rfl) e10 (tX10_partBelow v7 a1 v9 h6 ra1 e11) (fun z11 => ?_)
    refine j_aload_n (i := 0) (pc' := 37) dX11_cut_36 rfl rfl 0 rfl ?_
    obtain ⟨v12, e12, H⟩ := bs H
    refine j_getR (pc' := 40) dX11_cut_37 rfl fl_X11_10 e12 (fun r12 => ?_)
    obtain ⟨v13, e13, H⟩ := bs H
    refine j_getR (pc' := 43) dX11_cut_40 rfl fl_X11_163 e13 (fun r13 => ?_)
    obtain ⟨v14, e14, H⟩ := bs H
    refine j_getI (pc' := 46) dX11_cut_43 rfl fl_X11_166 e14 (fun r14 => ?_)
    obtain rfl := Option.some.inj H
    exact j_iret dX11_cut_46 r14 ⟨rfl, rfl⟩
  · rw [if_pos c3] at H
    refine j_aload_n (i := 0) (pc' := 12) dX11_cut_11 rfl rfl 0 rfl ?_
    refine j_iconst (pc' := 13) dX11_cut_12 rfl ?_
    obtain ⟨u15, e15, H⟩ := bs H
    obtain ⟨p16, e16, H⟩ := bs H
    refine j_cVi (y := yX11_refuse) (dY := 1) (vs := [vi 2]) (st := []) (q := a0) (pc' := 16) dX11_cut_13 rfl ymX11_refuse yvX11_refuse ml_X11_105 (by decide) rfl (Nat.le_of_ble_eq_true rfl) (Nat.le_of_ble_eq_true rfl) e15 (tX11_refuse a0 2 h ⟨by decide, by decide⟩ e16) (fun r16 z16 => ?_)
    obtain rfl := Option.some.inj H
    exact j_iret dX11_cut_16 r16 ⟨rfl, rfl⟩
-- X11_many
noncomputable def fX11_many_20 (x0 : Nat) (h : Hp) : Option (Int × Hp) :=
  (cob h 10 x0).bind fun _ => (fX11_refuse x0 1 h).bind fun p2 => some (p2.1, p2.2)
theorem tX11_many_20 {L : Nat} {xs : Nat → Int32} {l : Launch} {res : Int × Hp} (x0 : Nat) (h : Hp)  (H : fX11_many_20 x0 h = some res) : J L xs l RX11 cX11_many 3 false 3 (QL res) 0 0 20 [(0, vr x0)] [] h := by
  unfold fX11_many_20 at H
  refine j_aload_n (i := 0) (pc' := 21) dX11_many_20 rfl rfl 0 rfl ?_
  refine j_iconst (pc' := 22) dX11_many_21 rfl ?_
  obtain ⟨u1, e1, H⟩ := bs H
  obtain ⟨p2, e2, H⟩ := bs H
  refine j_cVi (y := yX11_refuse) (dY := 1) (vs := [vi 1]) (st := []) (q := x0) (pc' := 25) dX11_many_22 rfl ymX11_refuse yvX11_refuse ml_X11_105 (by decide) rfl (Nat.le_of_ble_eq_true rfl) (Nat.le_of_ble_eq_true rfl) e1 (tX11_refuse x0 1 h ⟨by decide, by decide⟩ e2) (fun r2 z2 => ?_)
  refine j_i2l (pc' := 26) dX11_many_25 rfl r2 ?_
  obtain rfl := Option.some.inj H
  exact j_lret dX11_many_26 (R32_l r2) ⟨rfl, rfl⟩
noncomputable def fX11_many_56 (s0 : Int) (h : Hp) : Option (Int × Hp) :=
  some (s0, h)
theorem tX11_many_56 {L : Nat} {xs : Nat → Int32} {l : Launch} {res : Int × Hp} (s0 : Int) (h : Hp) (rs0 : R64 s0) (H : fX11_many_56 s0 h = some res) : J L xs l RX11 cX11_many 3 false 3 (QL res) 0 0 56 [] [vl s0] h := by
  unfold fX11_many_56 at H
  obtain rfl := Option.some.inj H
  exact j_lret dX11_many_56 rs0 ⟨rfl, rfl⟩
noncomputable def fX11_many (a0 : Nat) (a1 : Int) (a2 : Int) (h : Hp) : Option (Int × Hp) :=
  if a1 < 0 then (fX11_many_20 a0 h) else (if 12 < a1 then (fX11_many_20 a0 h) else (if a2 < 0 then (fX11_many_20 a0 h) else (if a2 ≤ 12 then ((putV h 10 a0 11 (vi 0)).bind fun h5 => if a2 = 0 then ((getR h5 10 a0 10).bind fun v10 => (cob h5 4 v10).bind fun _ => (fX5_allOf v10 a1 h5).bind fun p12 => fX11_many_56 p12.1 p12.2) else ((getR h5 10 a0 10).bind fun v7 => (cob h5 4 v7).bind fun _ => (fX5_withHeaps v7 a1 a2 h5).bind fun p9 => fX11_many_56 p9.1 p9.2)) else (fX11_many_20 a0 h))))
theorem tX11_many {L : Nat} {xs : Nat → Int32} {l : Launch} {res : Int × Hp} (a0 : Nat) (a1 : Int) (a2 : Int) (h : Hp) (ra1 : R32 a1) (ra2 : R32 a2) (H : fX11_many a0 a1 a2 h = some res) : J L xs l RX11 cX11_many 3 false 3 (QL res) 0 0 0 (alv 0 [vr a0, vi a1, vi a2]) [] h := by
  unfold fX11_many at H
  show J L xs l RX11 cX11_many 3 false 3 (QL res) 0 0 0 [(0, vr a0), (1, vi a1), (2, vi a2)] [] h
  refine j_iload_n (i := 1) (pc' := 1) dX11_many_0 rfl rfl 1 rfl ?_
  refine j_if_lt (tgt := 20) (pc' := 4) dX11_many_1 (by decide) rfl ra1 (fun c1 => ?_) (fun c1 => ?_)
  · rw [if_pos c1] at H
    refine j_sub (lv' := [(0, vr a0)]) [0] rfl ?_
    exact tX11_many_20   a0 h  H
  · rw [if_neg c1] at H
    refine j_iload_n (i := 1) (pc' := 5) dX11_many_4 rfl rfl 1 rfl ?_
    refine j_bipush (pc' := 7) dX11_many_5 rfl (by decide +kernel) ?_
    refine j_icmp_gt (tgt := 20) (pc' := 10) dX11_many_7 (by decide) rfl ra1 ⟨by decide, by decide⟩ (fun c2 => ?_) (fun c2 => ?_)
    · rw [if_pos c2] at H
      refine j_sub (lv' := [(0, vr a0)]) [0] rfl ?_
      exact tX11_many_20   a0 h  H
    · rw [if_neg c2] at H
      refine j_iload_n (i := 2) (pc' := 11) dX11_many_10 rfl rfl 2 rfl ?_
      refine j_if_lt (tgt := 20) (pc' := 14) dX11_many_11 (by decide) rfl ra2 (fun c3 => ?_) (fun c3 => ?_)
      · rw [if_pos c3] at H
        refine j_sub (lv' := [(0, vr a0)]) [0] rfl ?_
        exact tX11_many_20   a0 h  H
      · rw [if_neg c3] at H
        refine j_iload_n (i := 2) (pc' := 15) dX11_many_14 rfl rfl 2 rfl ?_
        refine j_bipush (pc' := 17) dX11_many_15 rfl (by decide +kernel) ?_
        refine j_icmp_le (tgt := 27) (pc' := 20) dX11_many_17 (by decide) rfl ra2 ⟨by decide, by decide⟩ (fun c4 => ?_) (fun c4 => ?_)
        · rw [if_pos c4] at H
          refine j_aload_n (i := 0) (pc' := 28) dX11_many_27 rfl rfl 0 rfl ?_
          refine j_iconst (pc' := 29) dX11_many_28 rfl ?_
          obtain ⟨h5, e5, H⟩ := bs H
          refine j_putV (pc' := 32) dX11_many_29 rfl fp_X11_83 tI ⟨by decide, by decide⟩ e5 ?_
          refine j_iload_n (i := 2) (pc' := 33) dX11_many_32 rfl rfl 2 rfl ?_
          refine j_if_ne (tgt := 47) (pc' := 36) dX11_many_33 (by decide) rfl ra2 (fun c6 => ?_) (fun c6 => ?_)
          · rw [if_neg c6] at H
            refine j_aload_n (i := 0) (pc' := 48) dX11_many_47 rfl rfl 0 rfl ?_
            obtain ⟨v7, e7, H⟩ := bs H
            refine j_getR (pc' := 51) dX11_many_48 rfl fl_X11_79 e7 (fun r7 => ?_)
            refine j_iload_n (i := 1) (pc' := 52) dX11_many_51 rfl rfl 1 rfl ?_
            refine j_iload_n (i := 2) (pc' := 53) dX11_many_52 rfl rfl 2 rfl ?_
            obtain ⟨u8, e8, H⟩ := bs H
            obtain ⟨p9, e9, H⟩ := bs H
            refine j_cVl (y := yX5_withHeaps) (dY := 2) (vs := [vi a1, vi a2]) (st := []) (q := v7) (pc' := 56) dX11_many_53 rfl ymX5_withHeaps yvX5_withHeaps ml_X11_251 (by decide) rfl (Nat.le_of_ble_eq_true rfl) (Nat.le_of_ble_eq_true rfl) e8 (tX5_withHeaps v7 a1 a2 h5 ra1 ra2 e9) (fun r9 z9 => ?_)
            refine j_sub (lv' := []) [] rfl ?_
            exact tX11_many_56   p9.1 p9.2 r9 H
          · rw [if_pos c6] at H
            refine j_aload_n (i := 0) (pc' := 37) dX11_many_36 rfl rfl 0 rfl ?_
            obtain ⟨v10, e10, H⟩ := bs H
            refine j_getR (pc' := 40) dX11_many_37 rfl fl_X11_79 e10 (fun r10 => ?_)
            refine j_iload_n (i := 1) (pc' := 41) dX11_many_40 rfl rfl 1 rfl ?_
            obtain ⟨u11, e11, H⟩ := bs H
            obtain ⟨p12, e12, H⟩ := bs H
            refine j_cVl (y := yX5_allOf) (dY := 1) (vs := [vi a1]) (st := []) (q := v10) (pc' := 44) dX11_many_41 rfl ymX5_allOf yvX5_allOf ml_X11_247 (by decide) rfl (Nat.le_of_ble_eq_true rfl) (Nat.le_of_ble_eq_true rfl) e11 (tX5_allOf v10 a1 h5 ra1 e12) (fun r12 z12 => ?_)
            refine j_goto (tgt := 56) dX11_many_44 (by decide) ?_
            refine j_sub (lv' := []) [] rfl ?_
            exact tX11_many_56   p12.1 p12.2 r12 H
        · rw [if_neg c4] at H
          refine j_sub (lv' := [(0, vr a0)]) [0] rfl ?_
          exact tX11_many_20   a0 h  H
-- X11_rank
noncomputable def fX11_rank (a0 : Nat) (h : Hp) : Option (Int × Hp) :=
  (putV h 10 a0 11 (vi 0)).bind fun h1 => (getR h1 10 a0 10).bind fun v2 => (getR h1 10 a0 0).bind fun v3 => (getR h1 6 v3 5).bind fun v4 => (cob h1 4 v2).bind fun _ => (fX5_rankOf v2 v4 h1).bind fun p6 => some (p6.1, p6.2)
theorem tX11_rank {L : Nat} {xs : Nat → Int32} {l : Launch} {res : Int × Hp} (a0 : Nat) (h : Hp)  (H : fX11_rank a0 h = some res) : J L xs l RX11 cX11_rank 1 false 2 (QL res) 0 0 0 (alv 0 [vr a0]) [] h := by
  unfold fX11_rank at H
  show J L xs l RX11 cX11_rank 1 false 2 (QL res) 0 0 0 [(0, vr a0)] [] h
  refine j_aload_n (i := 0) (pc' := 1) dX11_rank_0 rfl rfl 0 rfl ?_
  refine j_iconst (pc' := 2) dX11_rank_1 rfl ?_
  obtain ⟨h1, e1, H⟩ := bs H
  refine j_putV (pc' := 5) dX11_rank_2 rfl fp_X11_83 tI ⟨by decide, by decide⟩ e1 ?_
  refine j_aload_n (i := 0) (pc' := 6) dX11_rank_5 rfl rfl 0 rfl ?_
  obtain ⟨v2, e2, H⟩ := bs H
  refine j_getR (pc' := 9) dX11_rank_6 rfl fl_X11_79 e2 (fun r2 => ?_)
  refine j_aload_n (i := 0) (pc' := 10) dX11_rank_9 rfl rfl 0 rfl ?_
  obtain ⟨v3, e3, H⟩ := bs H
  refine j_getR (pc' := 13) dX11_rank_10 rfl fl_X11_10 e3 (fun r3 => ?_)
  obtain ⟨v4, e4, H⟩ := bs H
  refine j_getR (pc' := 16) dX11_rank_13 rfl fl_X11_163 e4 (fun r4 => ?_)
  obtain ⟨u5, e5, H⟩ := bs H
  obtain ⟨p6, e6, H⟩ := bs H
  refine j_cVl (y := yX5_rankOf) (dY := 1) (vs := [vr v4]) (st := []) (q := v2) (pc' := 19) dX11_rank_16 rfl ymX5_rankOf yvX5_rankOf ml_X11_255 (by decide) rfl (Nat.le_of_ble_eq_true rfl) (Nat.le_of_ble_eq_true rfl) e5 (tX5_rankOf v2 v4 h1 e6) (fun r6 z6 => ?_)
  obtain rfl := Option.some.inj H
  exact j_lret dX11_rank_19 r6 ⟨rfl, rfl⟩
-- X11_of
noncomputable def fX11_of_25 (x0 : Nat) (h : Hp) : Option (Int × Hp) :=
  (cob h 10 x0).bind fun _ => (fX11_deny x0 1 h).bind fun p2 => (cbo p2.1).bind fun _ => some (p2.1, p2.2)
theorem tX11_of_25 {L : Nat} {xs : Nat → Int32} {l : Launch} {res : Int × Hp} (x0 : Nat) (h : Hp)  (H : fX11_of_25 x0 h = some res) : J L xs l RX11 cX11_of 3 false 5 (QB res) 0 0 25 [(0, vr x0)] [] h := by
  unfold fX11_of_25 at H
  refine j_aload_n (i := 0) (pc' := 26) dX11_of_25 rfl rfl 0 rfl ?_
  refine j_iconst (pc' := 27) dX11_of_26 rfl ?_
  obtain ⟨u1, e1, H⟩ := bs H
  obtain ⟨p2, e2, H⟩ := bs H
  refine j_cVb (y := yX11_deny) (dY := 1) (vs := [vi 1]) (st := []) (q := x0) (pc' := 30) dX11_of_27 rfl ymX11_deny yvX11_deny ml_X11_91 (by decide) rfl (Nat.le_of_ble_eq_true rfl) (Nat.le_of_ble_eq_true rfl) e1 (tX11_deny x0 1 h ⟨by decide, by decide⟩ e2) (fun r2 b2 z2 => ?_)
  obtain ⟨u3, e3, H⟩ := bs H
  obtain rfl := Option.some.inj H
  exact j_iret dX11_of_30 r2 ⟨rfl, rfl, cbo_R e3⟩
noncomputable def fX11_of (a0 : Nat) (a1 : Int) (h : Hp) : Option (Int × Hp) :=
  if (lCmp a1 0) < 0 then (fX11_of_25 a0 h) else ((getR h 10 a0 10).bind fun v2 => (getR h 10 a0 0).bind fun v3 => (getI h 6 v3 0).bind fun v4 => (cob h 4 v2).bind fun _ => (fX5_allOf v2 v4 h).bind fun p6 => if (lCmp a1 p6.1) < 0 then ((cob p6.2 10 a0).bind fun _ => (crf p6.2 a0).bind fun _ => (fX11_change a0 p6.2).bind fun h10 => (getR h10 10 a0 10).bind fun v11 => (getR h10 10 a0 0).bind fun v12 => (getR h10 6 v12 5).bind fun v13 => (cob h10 4 v11).bind fun _ => (fX5_unrank v11 a1 v13 h10).bind fun h15 => some (1, h15)) else (fX11_of_25 a0 p6.2))
theorem tX11_of {L : Nat} {xs : Nat → Int32} {l : Launch} {res : Int × Hp} (a0 : Nat) (a1 : Int) (h : Hp) (ra1 : R64 a1) (H : fX11_of a0 a1 h = some res) : J L xs l RX11 cX11_of 3 false 5 (QB res) 8 515 0 (alv 0 [vr a0, vl a1]) [] h := by
  unfold fX11_of at H
  show J L xs l RX11 cX11_of 3 false 5 (QB res) 8 515 0 [(0, vr a0), (1, vl a1)] [] h
  refine j_lload_n (i := 1) (pc' := 1) dX11_of_0 rfl rfl 1 rfl ?_
  refine j_lconst (z := 0) (pc' := 2) dX11_of_1 rfl rfl ?_
  refine j_lcmp (pc' := 3) dX11_of_2 rfl ra1 ⟨by decide, by decide⟩ ?_
  refine j_if_lt (tgt := 25) (pc' := 6) dX11_of_3 (by decide) rfl (R32_lcmp _ _) (fun c1 => ?_) (fun c1 => ?_)
  · rw [if_pos c1] at H
    refine j_sub (lv' := [(0, vr a0)]) [0] rfl ?_
    refine j_rc (rc2 := 0) (rs2 := 0) (by omega) (by omega) ?_
    exact tX11_of_25   a0 h  H
  · rw [if_neg c1] at H
    refine j_lload_n (i := 1) (pc' := 7) dX11_of_6 rfl rfl 1 rfl ?_
    refine j_aload_n (i := 0) (pc' := 8) dX11_of_7 rfl rfl 0 rfl ?_
    obtain ⟨v2, e2, H⟩ := bs H
    refine j_getR (pc' := 11) dX11_of_8 rfl fl_X11_79 e2 (fun r2 => ?_)
    refine j_aload_n (i := 0) (pc' := 12) dX11_of_11 rfl rfl 0 rfl ?_
    obtain ⟨v3, e3, H⟩ := bs H
    refine j_getR (pc' := 15) dX11_of_12 rfl fl_X11_10 e3 (fun r3 => ?_)
    obtain ⟨v4, e4, H⟩ := bs H
    refine j_getI (pc' := 18) dX11_of_15 rfl fl_X11_147 e4 (fun r4 => ?_)
    obtain ⟨u5, e5, H⟩ := bs H
    obtain ⟨p6, e6, H⟩ := bs H
    refine j_cVl (y := yX5_allOf) (dY := 1) (vs := [vi v4]) (st := [vl a1]) (q := v2) (pc' := 21) dX11_of_18 rfl ymX5_allOf yvX5_allOf ml_X11_247 (by decide) rfl (Nat.le_of_ble_eq_true rfl) (Nat.le_of_ble_eq_true rfl) e5 (tX5_allOf v2 v4 h r4 e6) (fun r6 z6 => ?_)
    refine j_lcmp (pc' := 22) dX11_of_21 rfl ra1 r6 ?_
    refine j_if_lt (tgt := 31) (pc' := 25) dX11_of_22 (by decide) rfl (R32_lcmp _ _) (fun c7 => ?_) (fun c7 => ?_)
    · rw [if_pos c7] at H
      refine j_aload_n (i := 0) (pc' := 32) dX11_of_31 rfl rfl 0 rfl ?_
      obtain ⟨u8, e8, H⟩ := bs H
      obtain ⟨u9, e9, H⟩ := bs H
      obtain ⟨h10, e10, H⟩ := bs H
      refine j_aVv (y := yX11_change) (dY := 4) (vs := []) (st := []) (q := a0) (mc := 8) (ms := 515) (rc := 0) (rs := 0) (pc' := 35) dX11_of_32 rfl ymX11_change yvX11_change ml_X11_95 (by decide) rfl (Nat.le_of_ble_eq_true rfl) (Nat.le_of_ble_eq_true rfl) e8 trivial ⟨(crf_R e9), trivial, trivial⟩ (tX11_change a0 p6.2 e10) ?_
      refine j_aload_n (i := 0) (pc' := 36) dX11_of_35 rfl rfl 0 rfl ?_
      obtain ⟨v11, e11, H⟩ := bs H
      refine j_getR (pc' := 39) dX11_of_36 rfl fl_X11_79 e11 (fun r11 => ?_)
      refine j_lload_n (i := 1) (pc' := 40) dX11_of_39 rfl rfl 1 rfl ?_
      refine j_aload_n (i := 0) (pc' := 41) dX11_of_40 rfl rfl 0 rfl ?_
      obtain ⟨v12, e12, H⟩ := bs H
      refine j_getR (pc' := 44) dX11_of_41 rfl fl_X11_10 e12 (fun r12 => ?_)
      obtain ⟨v13, e13, H⟩ := bs H
      refine j_getR (pc' := 47) dX11_of_44 rfl fl_X11_163 e13 (fun r13 => ?_)
      obtain ⟨u14, e14, H⟩ := bs H
      obtain ⟨h15, e15, H⟩ := bs H
      refine j_cVv (y := yX5_unrank) (dY := 1) (vs := [vl a1, vr v13]) (st := []) (q := v11) (pc' := 50) dX11_of_47 rfl ymX5_unrank yvX5_unrank ml_X11_259 (by decide) rfl (Nat.le_of_ble_eq_true rfl) (Nat.le_of_ble_eq_true rfl) e14 (tX5_unrank v11 a1 v13 h10 ra1 e15) (fun z15 => ?_)
      refine j_iconst (pc' := 51) dX11_of_50 rfl ?_
      obtain rfl := Option.some.inj H
      exact j_iret dX11_of_51 ⟨by decide, by decide⟩ ⟨rfl, rfl, Or.inr rfl⟩
    · rw [if_neg c7] at H
      refine j_sub (lv' := [(0, vr a0)]) [0] rfl ?_
      refine j_rc (rc2 := 0) (rs2 := 0) (by omega) (by omega) ?_
      exact tX11_of_25   a0 p6.2  H
-- X11_keep
noncomputable def fX11_keep_9 (x0 : Nat) (h : Hp) : Option (Int × Hp) :=
  (cob h 10 x0).bind fun _ => (fX11_deny x0 1 h).bind fun p2 => (cbo p2.1).bind fun _ => some (p2.1, p2.2)
theorem tX11_keep_9 {L : Nat} {xs : Nat → Int32} {l : Launch} {res : Int × Hp} (x0 : Nat) (h : Hp)  (H : fX11_keep_9 x0 h = some res) : J L xs l RX11 cX11_keep 2 false 2 (QB res) 0 0 9 [(0, vr x0)] [] h := by
  unfold fX11_keep_9 at H
  refine j_aload_n (i := 0) (pc' := 10) dX11_keep_9 rfl rfl 0 rfl ?_
  refine j_iconst (pc' := 11) dX11_keep_10 rfl ?_
  obtain ⟨u1, e1, H⟩ := bs H
  obtain ⟨p2, e2, H⟩ := bs H
  refine j_cVb (y := yX11_deny) (dY := 1) (vs := [vi 1]) (st := []) (q := x0) (pc' := 14) dX11_keep_11 rfl ymX11_deny yvX11_deny ml_X11_91 (by decide) rfl (Nat.le_of_ble_eq_true rfl) (Nat.le_of_ble_eq_true rfl) e1 (tX11_deny x0 1 h ⟨by decide, by decide⟩ e2) (fun r2 b2 z2 => ?_)
  obtain ⟨u3, e3, H⟩ := bs H
  obtain rfl := Option.some.inj H
  exact j_iret dX11_keep_14 r2 ⟨rfl, rfl, cbo_R e3⟩
noncomputable def fX11_keep (a0 : Nat) (a1 : Int) (h : Hp) : Option (Int × Hp) :=
  if a1 < 0 then (fX11_keep_9 a0 h) else (if a1 < 4 then ((putV h 10 a0 11 (vi 0)).bind fun h3 => (getR h3 10 a0 4).bind fun v4 => (rld h3 5 v4 a1).bind fun v5 => (getR h3 10 a0 0).bind fun v6 => (getR h3 6 v6 5).bind fun v7 => (cob h3 5 v5).bind fun _ => (fX6_copyFrom v5 v7 h3).bind fun h9 => some (1, h9)) else (fX11_keep_9 a0 h))
theorem tX11_keep {L : Nat} {xs : Nat → Int32} {l : Launch} {res : Int × Hp} (a0 : Nat) (a1 : Int) (h : Hp) (ra1 : R32 a1) (H : fX11_keep a0 a1 h = some res) : J L xs l RX11 cX11_keep 2 false 2 (QB res) 0 0 0 (alv 0 [vr a0, vi a1]) [] h := by
  unfold fX11_keep at H
  show J L xs l RX11 cX11_keep 2 false 2 (QB res) 0 0 0 [(0, vr a0), (1, vi a1)] [] h
  refine j_iload_n (i := 1) (pc' := 1) dX11_keep_0 rfl rfl 1 rfl ?_
  refine j_if_lt (tgt := 9) (pc' := 4) dX11_keep_1 (by decide) rfl ra1 (fun c1 => ?_) (fun c1 => ?_)
  · rw [if_pos c1] at H
    refine j_sub (lv' := [(0, vr a0)]) [0] rfl ?_
    exact tX11_keep_9   a0 h  H
  · rw [if_neg c1] at H
    refine j_iload_n (i := 1) (pc' := 5) dX11_keep_4 rfl rfl 1 rfl ?_
    refine j_iconst (pc' := 6) dX11_keep_5 rfl ?_
    refine j_icmp_lt (tgt := 15) (pc' := 9) dX11_keep_6 (by decide) rfl ra1 ⟨by decide, by decide⟩ (fun c2 => ?_) (fun c2 => ?_)
    · rw [if_pos c2] at H
      refine j_aload_n (i := 0) (pc' := 16) dX11_keep_15 rfl rfl 0 rfl ?_
      refine j_iconst (pc' := 17) dX11_keep_16 rfl ?_
      obtain ⟨h3, e3, H⟩ := bs H
      refine j_putV (pc' := 20) dX11_keep_17 rfl fp_X11_83 tI ⟨by decide, by decide⟩ e3 ?_
      refine j_aload_n (i := 0) (pc' := 21) dX11_keep_20 rfl rfl 0 rfl ?_
      obtain ⟨v4, e4, H⟩ := bs H
      refine j_getR (pc' := 24) dX11_keep_21 rfl fl_X11_39 e4 (fun r4 => ?_)
      refine j_iload_n (i := 1) (pc' := 25) dX11_keep_24 rfl rfl 1 rfl ?_
      obtain ⟨v5, e5, H⟩ := bs H
      refine j_rld (pc' := 26) dX11_keep_25 rfl e5 (fun r5 => ?_)
      refine j_aload_n (i := 0) (pc' := 27) dX11_keep_26 rfl rfl 0 rfl ?_
      obtain ⟨v6, e6, H⟩ := bs H
      refine j_getR (pc' := 30) dX11_keep_27 rfl fl_X11_10 e6 (fun r6 => ?_)
      obtain ⟨v7, e7, H⟩ := bs H
      refine j_getR (pc' := 33) dX11_keep_30 rfl fl_X11_163 e7 (fun r7 => ?_)
      obtain ⟨u8, e8, H⟩ := bs H
      obtain ⟨h9, e9, H⟩ := bs H
      refine j_cVv (y := yX6_copyFrom) (dY := 1) (vs := [vr v7]) (st := []) (q := v5) (pc' := 36) dX11_keep_33 rfl ymX6_copyFrom yvX6_copyFrom ml_X11_263 (by decide) rfl (Nat.le_of_ble_eq_true rfl) (Nat.le_of_ble_eq_true rfl) e8 (tX6_copyFrom v5 v7 h3 e9) (fun z9 => ?_)
      refine j_iconst (pc' := 37) dX11_keep_36 rfl ?_
      obtain rfl := Option.some.inj H
      exact j_iret dX11_keep_37 ⟨by decide, by decide⟩ ⟨rfl, rfl, Or.inr rfl⟩
    · rw [if_neg c2] at H
      refine j_sub (lv' := [(0, vr a0)]) [0] rfl ?_
      exact tX11_keep_9   a0 h  H
-- X11_keepFault
noncomputable def fX11_keepFault_9  (h : Hp) : Option (Int × Hp) :=
  some (1, h)
theorem tX11_keepFault_9 {L : Nat} {xs : Nat → Int32} {l : Launch} {res : Int × Hp}  (h : Hp)  (H : fX11_keepFault_9  h = some res) : J L xs l RX11 cX11_keepFault 2 false 1 (QI res) 0 0 9 [] [] h := by
  unfold fX11_keepFault_9 at H
  refine j_iconst (pc' := 10) dX11_keepFault_9 rfl ?_
  obtain rfl := Option.some.inj H
  exact j_iret dX11_keepFault_10 ⟨by decide, by decide⟩ ⟨rfl, rfl⟩
noncomputable def fX11_keepFault_35 (s0 : Int) (h : Hp) : Option (Int × Hp) :=
  some (s0, h)
theorem tX11_keepFault_35 {L : Nat} {xs : Nat → Int32} {l : Launch} {res : Int × Hp} (s0 : Int) (h : Hp) (rs0 : R32 s0) (H : fX11_keepFault_35 s0 h = some res) : J L xs l RX11 cX11_keepFault 2 false 1 (QI res) 0 0 35 [] [vi s0] h := by
  unfold fX11_keepFault_35 at H
  obtain rfl := Option.some.inj H
  exact j_iret dX11_keepFault_35 rs0 ⟨rfl, rfl⟩
noncomputable def fX11_keepFault (a0 : Nat) (a1 : Int) (h : Hp) : Option (Int × Hp) :=
  if a1 < 0 then (fX11_keepFault_9 h) else (if a1 < 4 then ((getR h 10 a0 4).bind fun v3 => (rld h 5 v3 a1).bind fun v4 => (getI h 5 v4 0).bind fun v5 => (getR h 10 a0 0).bind fun v6 => (getI h 6 v6 0).bind fun v7 => if v5 = v7 then (fX11_keepFault_35 0 h) else (fX11_keepFault_35 2 h)) else (fX11_keepFault_9 h))
theorem tX11_keepFault {L : Nat} {xs : Nat → Int32} {l : Launch} {res : Int × Hp} (a0 : Nat) (a1 : Int) (h : Hp) (ra1 : R32 a1) (H : fX11_keepFault a0 a1 h = some res) : J L xs l RX11 cX11_keepFault 2 false 1 (QI res) 0 0 0 (alv 0 [vr a0, vi a1]) [] h := by
  unfold fX11_keepFault at H
  show J L xs l RX11 cX11_keepFault 2 false 1 (QI res) 0 0 0 [(0, vr a0), (1, vi a1)] [] h
  refine j_iload_n (i := 1) (pc' := 1) dX11_keepFault_0 rfl rfl 1 rfl ?_
  refine j_if_lt (tgt := 9) (pc' := 4) dX11_keepFault_1 (by decide) rfl ra1 (fun c1 => ?_) (fun c1 => ?_)
  · rw [if_pos c1] at H
    refine j_sub (lv' := []) [] rfl ?_
    exact tX11_keepFault_9   h  H
  · rw [if_neg c1] at H
    refine j_iload_n (i := 1) (pc' := 5) dX11_keepFault_4 rfl rfl 1 rfl ?_
    refine j_iconst (pc' := 6) dX11_keepFault_5 rfl ?_
    refine j_icmp_lt (tgt := 11) (pc' := 9) dX11_keepFault_6 (by decide) rfl ra1 ⟨by decide, by decide⟩ (fun c2 => ?_) (fun c2 => ?_)
    · rw [if_pos c2] at H
      refine j_aload_n (i := 0) (pc' := 12) dX11_keepFault_11 rfl rfl 0 rfl ?_
      obtain ⟨v3, e3, H⟩ := bs H
      refine j_getR (pc' := 15) dX11_keepFault_12 rfl fl_X11_39 e3 (fun r3 => ?_)
      refine j_iload_n (i := 1) (pc' := 16) dX11_keepFault_15 rfl rfl 1 rfl ?_
      obtain ⟨v4, e4, H⟩ := bs H
      refine j_rld (pc' := 17) dX11_keepFault_16 rfl e4 (fun r4 => ?_)
      obtain ⟨v5, e5, H⟩ := bs H
      refine j_getI (pc' := 20) dX11_keepFault_17 rfl fl_X11_177 e5 (fun r5 => ?_)
      refine j_aload_n (i := 0) (pc' := 21) dX11_keepFault_20 rfl rfl 0 rfl ?_
      obtain ⟨v6, e6, H⟩ := bs H
      refine j_getR (pc' := 24) dX11_keepFault_21 rfl fl_X11_10 e6 (fun r6 => ?_)
      obtain ⟨v7, e7, H⟩ := bs H
      refine j_getI (pc' := 27) dX11_keepFault_24 rfl fl_X11_147 e7 (fun r7 => ?_)
      refine j_icmp_ne (tgt := 34) (pc' := 30) dX11_keepFault_27 (by decide) rfl r5 r7 (fun c8 => ?_) (fun c8 => ?_)
      · rw [if_neg c8] at H
        refine j_iconst (pc' := 35) dX11_keepFault_34 rfl ?_
        refine j_sub (lv' := []) [] rfl ?_
        exact tX11_keepFault_35   2 h ⟨by decide, by decide⟩ H
      · rw [if_pos c8] at H
        refine j_iconst (pc' := 31) dX11_keepFault_30 rfl ?_
        refine j_goto (tgt := 35) dX11_keepFault_31 (by decide) ?_
        refine j_sub (lv' := []) [] rfl ?_
        exact tX11_keepFault_35   0 h ⟨by decide, by decide⟩ H
    · rw [if_neg c2] at H
      refine j_sub (lv' := []) [] rfl ?_
      exact tX11_keepFault_9   h  H
-- X11_differ
noncomputable def fX11_differ (a0 : Nat) (a1 : Int) (h : Hp) : Option (Int × Hp) :=
  (cob h 10 a0).bind fun _ => (fX11_keepFault a0 a1 h).bind fun p2 => if p2.1 = 0 then ((putV p2.2 10 a0 11 (vi 0)).bind fun h4 => (getR h4 10 a0 0).bind fun v5 => (getR h4 6 v5 5).bind fun v6 => (getR h4 10 a0 4).bind fun v7 => (rld h4 5 v7 a1).bind fun v8 => (cob h4 5 v6).bind fun _ => (fX6_pairsApart v6 v8 h4).bind fun p10 => some (p10.1, p10.2)) else ((cob p2.2 10 a0).bind fun _ => (fX11_refuse a0 p2.1 p2.2).bind fun p12 => some (p12.1, p12.2))
theorem tX11_differ {L : Nat} {xs : Nat → Int32} {l : Launch} {res : Int × Hp} (a0 : Nat) (a1 : Int) (h : Hp) (ra1 : R32 a1) (H : fX11_differ a0 a1 h = some res) : J L xs l RX11 cX11_differ 3 false 2 (QI res) 0 0 0 (alv 0 [vr a0, vi a1]) [] h := by
  unfold fX11_differ at H
  show J L xs l RX11 cX11_differ 3 false 2 (QI res) 0 0 0 [(0, vr a0), (1, vi a1)] [] h
  refine j_aload_n (i := 0) (pc' := 1) dX11_differ_0 rfl rfl 0 rfl ?_
  refine j_iload_n (i := 1) (pc' := 2) dX11_differ_1 rfl rfl 1 rfl ?_
  obtain ⟨u1, e1, H⟩ := bs H
  obtain ⟨p2, e2, H⟩ := bs H
  refine j_cVi (y := yX11_keepFault) (dY := 1) (vs := [vi a1]) (st := []) (q := a0) (pc' := 5) dX11_differ_2 rfl ymX11_keepFault yvX11_keepFault ml_X11_267 (by decide) rfl (Nat.le_of_ble_eq_true rfl) (Nat.le_of_ble_eq_true rfl) e1 (tX11_keepFault a0 a1 h ra1 e2) (fun r2 z2 => ?_)
  refine j_istore_n (i := 2) (lv' := [(0, vr a0), (1, vi a1), (2, vi p2.1)]) (pc' := 6) dX11_differ_5 rfl rfl (by decide) [1, 2, 0] rfl ?_
  refine j_iload_n (i := 2) (pc' := 7) dX11_differ_6 rfl rfl 2 rfl ?_
  refine j_if_eq (tgt := 16) (pc' := 10) dX11_differ_7 (by decide) rfl r2 (fun c3 => ?_) (fun c3 => ?_)
  · rw [if_pos c3] at H
    refine j_aload_n (i := 0) (pc' := 17) dX11_differ_16 rfl rfl 0 rfl ?_
    refine j_iconst (pc' := 18) dX11_differ_17 rfl ?_
    obtain ⟨h4, e4, H⟩ := bs H
    refine j_putV (pc' := 21) dX11_differ_18 rfl fp_X11_83 tI ⟨by decide, by decide⟩ e4 ?_
    refine j_aload_n (i := 0) (pc' := 22) dX11_differ_21 rfl rfl 0 rfl ?_
    obtain ⟨v5, e5, H⟩ := bs H
    refine j_getR (pc' := 25) dX11_differ_22 rfl fl_X11_10 e5 (fun r5 => ?_)
    obtain ⟨v6, e6, H⟩ := bs H
    refine j_getR (pc' := 28) dX11_differ_25 rfl fl_X11_163 e6 (fun r6 => ?_)
    refine j_aload_n (i := 0) (pc' := 29) dX11_differ_28 rfl rfl 0 rfl ?_
    obtain ⟨v7, e7, H⟩ := bs H
    refine j_getR (pc' := 32) dX11_differ_29 rfl fl_X11_39 e7 (fun r7 => ?_)
    refine j_iload_n (i := 1) (pc' := 33) dX11_differ_32 rfl rfl 1 rfl ?_
    obtain ⟨v8, e8, H⟩ := bs H
    refine j_rld (pc' := 34) dX11_differ_33 rfl e8 (fun r8 => ?_)
    obtain ⟨u9, e9, H⟩ := bs H
    obtain ⟨p10, e10, H⟩ := bs H
    refine j_cVi (y := yX6_pairsApart) (dY := 1) (vs := [vr v8]) (st := []) (q := v6) (pc' := 37) dX11_differ_34 rfl ymX6_pairsApart yvX6_pairsApart ml_X11_270 (by decide) rfl (Nat.le_of_ble_eq_true rfl) (Nat.le_of_ble_eq_true rfl) e9 (tX6_pairsApart v6 v8 h4 e10) (fun r10 z10 => ?_)
    obtain rfl := Option.some.inj H
    exact j_iret dX11_differ_37 r10 ⟨rfl, rfl⟩
  · rw [if_neg c3] at H
    refine j_aload_n (i := 0) (pc' := 11) dX11_differ_10 rfl rfl 0 rfl ?_
    refine j_iload_n (i := 2) (pc' := 12) dX11_differ_11 rfl rfl 2 rfl ?_
    obtain ⟨u11, e11, H⟩ := bs H
    obtain ⟨p12, e12, H⟩ := bs H
    refine j_cVi (y := yX11_refuse) (dY := 1) (vs := [vi p2.1]) (st := []) (q := a0) (pc' := 15) dX11_differ_12 rfl ymX11_refuse yvX11_refuse ml_X11_105 (by decide) rfl (Nat.le_of_ble_eq_true rfl) (Nat.le_of_ble_eq_true rfl) e11 (tX11_refuse a0 p2.1 p2.2 r2 e12) (fun r12 z12 => ?_)
    obtain rfl := Option.some.inj H
    exact j_iret dX11_differ_15 r12 ⟨rfl, rfl⟩
-- X11_both
noncomputable def fX11_both (a0 : Nat) (a1 : Int) (h : Hp) : Option (Int × Hp) :=
  (cob h 10 a0).bind fun _ => (fX11_keepFault a0 a1 h).bind fun p2 => if p2.1 = 0 then ((cob p2.2 10 a0).bind fun _ => (crf p2.2 a0).bind fun _ => (fX11_change a0 p2.2).bind fun h6 => (getR h6 10 a0 0).bind fun v7 => (getR h6 6 v7 5).bind fun v8 => (getR h6 10 a0 4).bind fun v9 => (rld h6 5 v9 a1).bind fun v10 => (cob h6 5 v8).bind fun _ => (fX6_meet v8 v10 h6).bind fun h12 => (getR h12 10 a0 0).bind fun v13 => (getR h12 6 v13 5).bind fun v14 => (getI h12 5 v14 1).bind fun v15 => some (v15, h12)) else ((cob p2.2 10 a0).bind fun _ => (fX11_refuse a0 p2.1 p2.2).bind fun p17 => some (p17.1, p17.2))
theorem tX11_both {L : Nat} {xs : Nat → Int32} {l : Launch} {res : Int × Hp} (a0 : Nat) (a1 : Int) (h : Hp) (ra1 : R32 a1) (H : fX11_both a0 a1 h = some res) : J L xs l RX11 cX11_both 3 false 5 (QI res) 8 515 0 (alv 0 [vr a0, vi a1]) [] h := by
  unfold fX11_both at H
  show J L xs l RX11 cX11_both 3 false 5 (QI res) 8 515 0 [(0, vr a0), (1, vi a1)] [] h
  refine j_aload_n (i := 0) (pc' := 1) dX11_both_0 rfl rfl 0 rfl ?_
  refine j_iload_n (i := 1) (pc' := 2) dX11_both_1 rfl rfl 1 rfl ?_
  obtain ⟨u1, e1, H⟩ := bs H
  obtain ⟨p2, e2, H⟩ := bs H
  refine j_cVi (y := yX11_keepFault) (dY := 1) (vs := [vi a1]) (st := []) (q := a0) (pc' := 5) dX11_both_2 rfl ymX11_keepFault yvX11_keepFault ml_X11_267 (by decide) rfl (Nat.le_of_ble_eq_true rfl) (Nat.le_of_ble_eq_true rfl) e1 (tX11_keepFault a0 a1 h ra1 e2) (fun r2 z2 => ?_)
  refine j_istore_n (i := 2) (lv' := [(0, vr a0), (1, vi a1), (2, vi p2.1)]) (pc' := 6) dX11_both_5 rfl rfl (by decide) [1, 2, 0] rfl ?_
  refine j_iload_n (i := 2) (pc' := 7) dX11_both_6 rfl rfl 2 rfl ?_
  refine j_if_eq (tgt := 16) (pc' := 10) dX11_both_7 (by decide) rfl r2 (fun c3 => ?_) (fun c3 => ?_)
  · rw [if_pos c3] at H
    refine j_aload_n (i := 0) (pc' := 17) dX11_both_16 rfl rfl 0 rfl ?_
    obtain ⟨u4, e4, H⟩ := bs H
    obtain ⟨u5, e5, H⟩ := bs H
    obtain ⟨h6, e6, H⟩ := bs H
    refine j_aVv (y := yX11_change) (dY := 4) (vs := []) (st := []) (q := a0) (mc := 8) (ms := 515) (rc := 0) (rs := 0) (pc' := 20) dX11_both_17 rfl ymX11_change yvX11_change ml_X11_95 (by decide) rfl (Nat.le_of_ble_eq_true rfl) (Nat.le_of_ble_eq_true rfl) e4 trivial ⟨(crf_R e5), trivial, trivial, trivial⟩ (tX11_change a0 p2.2 e6) ?_
    refine j_aload_n (i := 0) (pc' := 21) dX11_both_20 rfl rfl 0 rfl ?_
    obtain ⟨v7, e7, H⟩ := bs H
    refine j_getR (pc' := 24) dX11_both_21 rfl fl_X11_10 e7 (fun r7 => ?_)
    obtain ⟨v8, e8, H⟩ := bs H
    refine j_getR (pc' := 27) dX11_both_24 rfl fl_X11_163 e8 (fun r8 => ?_)
    refine j_aload_n (i := 0) (pc' := 28) dX11_both_27 rfl rfl 0 rfl ?_
    obtain ⟨v9, e9, H⟩ := bs H
    refine j_getR (pc' := 31) dX11_both_28 rfl fl_X11_39 e9 (fun r9 => ?_)
    refine j_iload_n (i := 1) (pc' := 32) dX11_both_31 rfl rfl 1 rfl ?_
    obtain ⟨v10, e10, H⟩ := bs H
    refine j_rld (pc' := 33) dX11_both_32 rfl e10 (fun r10 => ?_)
    obtain ⟨u11, e11, H⟩ := bs H
    obtain ⟨h12, e12, H⟩ := bs H
    refine j_cVv (y := yX6_meet) (dY := 1) (vs := [vr v10]) (st := []) (q := v8) (pc' := 36) dX11_both_33 rfl ymX6_meet yvX6_meet ml_X11_274 (by decide) rfl (Nat.le_of_ble_eq_true rfl) (Nat.le_of_ble_eq_true rfl) e11 (tX6_meet v8 v10 h6 e12) (fun z12 => ?_)
    refine j_aload_n (i := 0) (pc' := 37) dX11_both_36 rfl rfl 0 rfl ?_
    obtain ⟨v13, e13, H⟩ := bs H
    refine j_getR (pc' := 40) dX11_both_37 rfl fl_X11_10 e13 (fun r13 => ?_)
    obtain ⟨v14, e14, H⟩ := bs H
    refine j_getR (pc' := 43) dX11_both_40 rfl fl_X11_163 e14 (fun r14 => ?_)
    obtain ⟨v15, e15, H⟩ := bs H
    refine j_getI (pc' := 46) dX11_both_43 rfl fl_X11_166 e15 (fun r15 => ?_)
    obtain rfl := Option.some.inj H
    exact j_iret dX11_both_46 r15 ⟨rfl, rfl⟩
  · rw [if_neg c3] at H
    refine j_aload_n (i := 0) (pc' := 11) dX11_both_10 rfl rfl 0 rfl ?_
    refine j_iload_n (i := 2) (pc' := 12) dX11_both_11 rfl rfl 2 rfl ?_
    obtain ⟨u16, e16, H⟩ := bs H
    obtain ⟨p17, e17, H⟩ := bs H
    refine j_cVi (y := yX11_refuse) (dY := 1) (vs := [vi p2.1]) (st := []) (q := a0) (pc' := 15) dX11_both_12 rfl ymX11_refuse yvX11_refuse ml_X11_105 (by decide) rfl (Nat.le_of_ble_eq_true rfl) (Nat.le_of_ble_eq_true rfl) e16 (tX11_refuse a0 p2.1 p2.2 r2 e17) (fun r17 z17 => ?_)
    obtain rfl := Option.some.inj H
    exact j_iret dX11_both_15 r17 ⟨rfl, rfl⟩
-- X11_tell
noncomputable def fX11_tell_22 (x0 : Nat) (h : Hp) : Option (Int × Hp) :=
  (cob h 10 x0).bind fun _ => (fX11_refuse x0 1 h).bind fun p2 => some (p2.1, p2.2)
theorem tX11_tell_22 {L : Nat} {xs : Nat → Int32} {l : Launch} {res : Int × Hp} (x0 : Nat) (h : Hp)  (H : fX11_tell_22 x0 h = some res) : J L xs l RX11 cX11_tell 2 false 2 (QI res) 0 0 22 [(0, vr x0)] [] h := by
  unfold fX11_tell_22 at H
  refine j_aload_n (i := 0) (pc' := 23) dX11_tell_22 rfl rfl 0 rfl ?_
  refine j_iconst (pc' := 24) dX11_tell_23 rfl ?_
  obtain ⟨u1, e1, H⟩ := bs H
  obtain ⟨p2, e2, H⟩ := bs H
  refine j_cVi (y := yX11_refuse) (dY := 1) (vs := [vi 1]) (st := []) (q := x0) (pc' := 27) dX11_tell_24 rfl ymX11_refuse yvX11_refuse ml_X11_105 (by decide) rfl (Nat.le_of_ble_eq_true rfl) (Nat.le_of_ble_eq_true rfl) e1 (tX11_refuse x0 1 h ⟨by decide, by decide⟩ e2) (fun r2 z2 => ?_)
  obtain rfl := Option.some.inj H
  exact j_iret dX11_tell_27 r2 ⟨rfl, rfl⟩
noncomputable def fX11_tell (a0 : Nat) (a1 : Int) (h : Hp) : Option (Int × Hp) :=
  if a1 < 0 then (fX11_tell_22 a0 h) else (if 12 ≤ a1 then (fX11_tell_22 a0 h) else ((getR h 10 a0 5).bind fun v3 => (getI h 5 v3 0).bind fun v4 => if v4 < 12 then ((putV h 10 a0 11 (vi 0)).bind fun h6 => (getR h6 10 a0 5).bind fun v7 => (getR h6 5 v7 2).bind fun v8 => (getR h6 10 a0 5).bind fun v9 => (getI h6 5 v9 0).bind fun v10 => (ast h6 0 v8 v10 a1).bind fun h11 => (getR h11 10 a0 5).bind fun v12 => (getI h11 5 v12 0).bind fun v13 => (c32 (v13 + 1)).bind fun _ => (putV h11 5 v12 0 (vi (v13 + 1))).bind fun h15 => (getR h15 10 a0 5).bind fun v16 => (getI h15 5 v16 0).bind fun v17 => some (v17, h15)) else (fX11_tell_22 a0 h)))
theorem tX11_tell {L : Nat} {xs : Nat → Int32} {l : Launch} {res : Int × Hp} (a0 : Nat) (a1 : Int) (h : Hp) (ra1 : R32 a1) (H : fX11_tell a0 a1 h = some res) : J L xs l RX11 cX11_tell 2 false 2 (QI res) 0 0 0 (alv 0 [vr a0, vi a1]) [] h := by
  unfold fX11_tell at H
  show J L xs l RX11 cX11_tell 2 false 2 (QI res) 0 0 0 [(0, vr a0), (1, vi a1)] [] h
  refine j_iload_n (i := 1) (pc' := 1) dX11_tell_0 rfl rfl 1 rfl ?_
  refine j_if_lt (tgt := 22) (pc' := 4) dX11_tell_1 (by decide) rfl ra1 (fun c1 => ?_) (fun c1 => ?_)
  · rw [if_pos c1] at H
    refine j_sub (lv' := [(0, vr a0)]) [0] rfl ?_
    exact tX11_tell_22   a0 h  H
  · rw [if_neg c1] at H
    refine j_iload_n (i := 1) (pc' := 5) dX11_tell_4 rfl rfl 1 rfl ?_
    refine j_bipush (pc' := 7) dX11_tell_5 rfl (by decide +kernel) ?_
    refine j_icmp_ge (tgt := 22) (pc' := 10) dX11_tell_7 (by decide) rfl ra1 ⟨by decide, by decide⟩ (fun c2 => ?_) (fun c2 => ?_)
    · rw [if_pos c2] at H
      refine j_sub (lv' := [(0, vr a0)]) [0] rfl ?_
      exact tX11_tell_22   a0 h  H
    · rw [if_neg c2] at H
      refine j_aload_n (i := 0) (pc' := 11) dX11_tell_10 rfl rfl 0 rfl ?_
      obtain ⟨v3, e3, H⟩ := bs H
      refine j_getR (pc' := 14) dX11_tell_11 rfl fl_X11_44 e3 (fun r3 => ?_)
      obtain ⟨v4, e4, H⟩ := bs H
      refine j_getI (pc' := 17) dX11_tell_14 rfl fl_X11_177 e4 (fun r4 => ?_)
      refine j_bipush (pc' := 19) dX11_tell_17 rfl (by decide +kernel) ?_
      refine j_icmp_lt (tgt := 28) (pc' := 22) dX11_tell_19 (by decide) rfl r4 ⟨by decide, by decide⟩ (fun c5 => ?_) (fun c5 => ?_)
      · rw [if_pos c5] at H
        refine j_aload_n (i := 0) (pc' := 29) dX11_tell_28 rfl rfl 0 rfl ?_
        refine j_iconst (pc' := 30) dX11_tell_29 rfl ?_
        obtain ⟨h6, e6, H⟩ := bs H
        refine j_putV (pc' := 33) dX11_tell_30 rfl fp_X11_83 tI ⟨by decide, by decide⟩ e6 ?_
        refine j_aload_n (i := 0) (pc' := 34) dX11_tell_33 rfl rfl 0 rfl ?_
        obtain ⟨v7, e7, H⟩ := bs H
        refine j_getR (pc' := 37) dX11_tell_34 rfl fl_X11_44 e7 (fun r7 => ?_)
        obtain ⟨v8, e8, H⟩ := bs H
        refine j_getR (pc' := 40) dX11_tell_37 rfl fl_X11_169 e8 (fun r8 => ?_)
        refine j_aload_n (i := 0) (pc' := 41) dX11_tell_40 rfl rfl 0 rfl ?_
        obtain ⟨v9, e9, H⟩ := bs H
        refine j_getR (pc' := 44) dX11_tell_41 rfl fl_X11_44 e9 (fun r9 => ?_)
        obtain ⟨v10, e10, H⟩ := bs H
        refine j_getI (pc' := 47) dX11_tell_44 rfl fl_X11_177 e10 (fun r10 => ?_)
        refine j_iload_n (i := 1) (pc' := 48) dX11_tell_47 rfl rfl 1 rfl ?_
        obtain ⟨h11, e11, H⟩ := bs H
        refine j_iast (pc' := 49) dX11_tell_48 rfl ra1 e11 ?_
        refine j_aload_n (i := 0) (pc' := 50) dX11_tell_49 rfl rfl 0 rfl ?_
        obtain ⟨v12, e12, H⟩ := bs H
        refine j_getR (pc' := 53) dX11_tell_50 rfl fl_X11_44 e12 (fun r12 => ?_)
        refine j_dup (pc' := 54) dX11_tell_53 rfl rfl ?_
        obtain ⟨v13, e13, H⟩ := bs H
        refine j_getI (pc' := 57) dX11_tell_54 rfl fl_X11_177 e13 (fun r13 => ?_)
        refine j_iconst (pc' := 58) dX11_tell_57 rfl ?_
        refine j_iadd (pc' := 59) dX11_tell_58 rfl ?_
        obtain ⟨u14, e14, H⟩ := bs H
        have r14 := c32_R e14
        obtain ⟨h15, e15, H⟩ := bs H
        refine j_putV (pc' := 62) dX11_tell_59 rfl fp_X11_177 tI r14 e15 ?_
        refine j_aload_n (i := 0) (pc' := 63) dX11_tell_62 rfl rfl 0 rfl ?_
        obtain ⟨v16, e16, H⟩ := bs H
        refine j_getR (pc' := 66) dX11_tell_63 rfl fl_X11_44 e16 (fun r16 => ?_)
        obtain ⟨v17, e17, H⟩ := bs H
        refine j_getI (pc' := 69) dX11_tell_66 rfl fl_X11_177 e17 (fun r17 => ?_)
        obtain rfl := Option.some.inj H
        exact j_iret dX11_tell_69 r17 ⟨rfl, rfl⟩
      · rw [if_neg c5] at H
        refine j_sub (lv' := [(0, vr a0)]) [0] rfl ?_
        exact tX11_tell_22   a0 h  H
-- X11_check
noncomputable def fX11_check_98 (s0 : Int) (h : Hp) : Option (Int × Hp) :=
  some (s0, h)
theorem tX11_check_98 {L : Nat} {xs : Nat → Int32} {l : Launch} {res : Int × Hp} (s0 : Int) (h : Hp) (rs0 : R32 s0) (H : fX11_check_98 s0 h = some res) : J L xs l RX11 cX11_check 7 false 6 (QI res) 0 0 98 [] [vi s0] h := by
  unfold fX11_check_98 at H
  obtain rfl := Option.some.inj H
  exact j_iret dX11_check_98 rs0 ⟨rfl, rfl⟩
noncomputable def fX11_check_62 (x0 : Nat) (x2 : Int) (x4 : Int) (s0 : Int) (h : Hp) : Option (Int × Hp) :=
  (getR h 10 x0 5).bind fun v1 => (putV h 5 v1 0 (vi 0)).bind fun h2 => (getR h2 10 x0 0).bind fun v3 => (getI h2 6 v3 0).bind fun v4 => if x4 = v4 then (if (lCmp s0 x2) = 0 then (fX11_check_98 2 h2) else (fX11_check_98 1 h2)) else (some (0, h2))
theorem tX11_check_62 {L : Nat} {xs : Nat → Int32} {l : Launch} {res : Int × Hp} (x0 : Nat) (x2 : Int) (x4 : Int) (s0 : Int) (h : Hp) (rx2 : R64 x2) (rx4 : R32 x4) (rs0 : R64 s0) (H : fX11_check_62 x0 x2 x4 s0 h = some res) : J L xs l RX11 cX11_check 7 false 6 (QI res) 0 0 62 [(0, vr x0), (2, vl x2), (4, vi x4)] [vl s0] h := by
  unfold fX11_check_62 at H
  refine j_lstore (lv' := [(0, vr x0), (2, vl x2), (4, vi x4), (5, vl s0)]) (pc' := 64) dX11_check_62 rfl (by decide) [1, 2, 3, 0] rfl ?_
  refine j_aload_n (i := 0) (pc' := 65) dX11_check_64 rfl rfl 0 rfl ?_
  obtain ⟨v1, e1, H⟩ := bs H
  refine j_getR (pc' := 68) dX11_check_65 rfl fl_X11_44 e1 (fun r1 => ?_)
  refine j_iconst (pc' := 69) dX11_check_68 rfl ?_
  obtain ⟨h2, e2, H⟩ := bs H
  refine j_putV (pc' := 72) dX11_check_69 rfl fp_X11_177 tI ⟨by decide, by decide⟩ e2 ?_
  refine j_iload (pc' := 74) dX11_check_72 rfl 2 rfl ?_
  refine j_aload_n (i := 0) (pc' := 75) dX11_check_74 rfl rfl 0 rfl ?_
  obtain ⟨v3, e3, H⟩ := bs H
  refine j_getR (pc' := 78) dX11_check_75 rfl fl_X11_10 e3 (fun r3 => ?_)
  obtain ⟨v4, e4, H⟩ := bs H
  refine j_getI (pc' := 81) dX11_check_78 rfl fl_X11_147 e4 (fun r4 => ?_)
  refine j_icmp_eq (tgt := 86) (pc' := 84) dX11_check_81 (by decide) rfl rx4 r4 (fun c5 => ?_) (fun c5 => ?_)
  · rw [if_pos c5] at H
    refine j_lload (pc' := 88) dX11_check_86 rfl 3 rfl ?_
    refine j_lload_n (i := 2) (pc' := 89) dX11_check_88 rfl rfl 1 rfl ?_
    refine j_lcmp (pc' := 90) dX11_check_89 rfl rs0 rx2 ?_
    refine j_if_ne (tgt := 97) (pc' := 93) dX11_check_90 (by decide) rfl (R32_lcmp _ _) (fun c6 => ?_) (fun c6 => ?_)
    · rw [if_neg c6] at H
      refine j_iconst (pc' := 98) dX11_check_97 rfl ?_
      refine j_sub (lv' := []) [] rfl ?_
      exact tX11_check_98   1 h2 ⟨by decide, by decide⟩ H
    · rw [if_pos c6] at H
      refine j_iconst (pc' := 94) dX11_check_93 rfl ?_
      refine j_goto (tgt := 98) dX11_check_94 (by decide) ?_
      refine j_sub (lv' := []) [] rfl ?_
      exact tX11_check_98   2 h2 ⟨by decide, by decide⟩ H
  · rw [if_neg c5] at H
    refine j_iconst (pc' := 85) dX11_check_84 rfl ?_
    obtain rfl := Option.some.inj H
    exact j_iret dX11_check_85 ⟨by decide, by decide⟩ ⟨rfl, rfl⟩
noncomputable def fX11_check (a0 : Nat) (a1 : Int) (a2 : Int) (h : Hp) : Option (Int × Hp) :=
  (fX11_isGoal a1 h).bind fun p1 => if p1.1 = 0 then ((cob p1.2 10 a0).bind fun _ => (fX11_refuse a0 1 p1.2).bind fun p16 => some (p16.1, p16.2)) else ((putV p1.2 10 a0 11 (vi 0)).bind fun h3 => (getR h3 10 a0 5).bind fun v4 => (getI h3 5 v4 0).bind fun v5 => (getR h3 10 a0 5).bind fun v6 => (cob h3 5 v6).bind fun _ => (fX6_renumber v6 h3).bind fun h8 => (getR h8 10 a0 0).bind fun v9 => (getI h8 6 v9 0).bind fun v10 => if v5 = v10 then ((getR h8 10 a0 0).bind fun v12 => (getR h8 10 a0 5).bind fun v13 => (fX0_ofParting v12 a1 v13 h8).bind fun p14 => fX11_check_62 a0 a2 v5 p14.1 p14.2) else (fX11_check_62 a0 a2 v5 0 h8))
theorem tX11_check {L : Nat} {xs : Nat → Int32} {l : Launch} {res : Int × Hp} (a0 : Nat) (a1 : Int) (a2 : Int) (h : Hp) (ra1 : R32 a1) (ra2 : R64 a2) (H : fX11_check a0 a1 a2 h = some res) : J L xs l RX11 cX11_check 7 false 6 (QI res) 0 0 0 (alv 0 [vr a0, vi a1, vl a2]) [] h := by
  unfold fX11_check at H
  show J L xs l RX11 cX11_check 7 false 6 (QI res) 0 0 0 [(0, vr a0), (1, vi a1), (2, vl a2)] [] h
  refine j_iload_n (i := 1) (pc' := 1) dX11_check_0 rfl rfl 1 rfl ?_
  obtain ⟨p1, e1, H⟩ := bs H
  refine j_cSb (y := yX11_isGoal) (dY := 1) (vs := [vi a1]) (st := []) (pc' := 4) dX11_check_1 rfl ymX11_isGoal ysX11_isGoal ml_X11_184 (by decide) rfl (Nat.le_of_ble_eq_true rfl) (Nat.le_of_ble_eq_true rfl) (tX11_isGoal a1 h ra1 e1) (fun r1 b1 z1 => ?_)
  refine j_if_ne (tgt := 13) (pc' := 7) dX11_check_4 (by decide) rfl r1 (fun c2 => ?_) (fun c2 => ?_)
  · rw [if_neg c2] at H
    refine j_aload_n (i := 0) (pc' := 14) dX11_check_13 rfl rfl 0 rfl ?_
    refine j_iconst (pc' := 15) dX11_check_14 rfl ?_
    obtain ⟨h3, e3, H⟩ := bs H
    refine j_putV (pc' := 18) dX11_check_15 rfl fp_X11_83 tI ⟨by decide, by decide⟩ e3 ?_
    refine j_aload_n (i := 0) (pc' := 19) dX11_check_18 rfl rfl 0 rfl ?_
    obtain ⟨v4, e4, H⟩ := bs H
    refine j_getR (pc' := 22) dX11_check_19 rfl fl_X11_44 e4 (fun r4 => ?_)
    obtain ⟨v5, e5, H⟩ := bs H
    refine j_getI (pc' := 25) dX11_check_22 rfl fl_X11_177 e5 (fun r5 => ?_)
    refine j_istore (lv' := [(0, vr a0), (1, vi a1), (2, vl a2), (4, vi v5)]) (pc' := 27) dX11_check_25 rfl (by decide) [1, 2, 3, 0] rfl ?_
    refine j_aload_n (i := 0) (pc' := 28) dX11_check_27 rfl rfl 0 rfl ?_
    obtain ⟨v6, e6, H⟩ := bs H
    refine j_getR (pc' := 31) dX11_check_28 rfl fl_X11_44 e6 (fun r6 => ?_)
    obtain ⟨u7, e7, H⟩ := bs H
    obtain ⟨h8, e8, H⟩ := bs H
    refine j_cVv (y := yX6_renumber) (dY := 2) (vs := []) (st := []) (q := v6) (pc' := 34) dX11_check_31 rfl ymX6_renumber yvX6_renumber ml_X11_172 (by decide) rfl (Nat.le_of_ble_eq_true rfl) (Nat.le_of_ble_eq_true rfl) e7 (tX6_renumber v6 h3 e8) (fun z8 => ?_)
    refine j_iload (pc' := 36) dX11_check_34 rfl 3 rfl ?_
    refine j_aload_n (i := 0) (pc' := 37) dX11_check_36 rfl rfl 0 rfl ?_
    obtain ⟨v9, e9, H⟩ := bs H
    refine j_getR (pc' := 40) dX11_check_37 rfl fl_X11_10 e9 (fun r9 => ?_)
    obtain ⟨v10, e10, H⟩ := bs H
    refine j_getI (pc' := 43) dX11_check_40 rfl fl_X11_147 e10 (fun r10 => ?_)
    refine j_icmp_ne (tgt := 61) (pc' := 46) dX11_check_43 (by decide) rfl r5 r10 (fun c11 => ?_) (fun c11 => ?_)
    · rw [if_neg c11] at H
      refine j_lconst (z := 0) (pc' := 62) dX11_check_61 rfl rfl ?_
      refine j_sub (lv' := [(0, vr a0), (2, vl a2), (4, vi v5)]) [0, 2, 3] rfl ?_
      exact tX11_check_62   a0 a2 v5 0 h8 ra2 r5 ⟨by decide, by decide⟩ H
    · rw [if_pos c11] at H
      refine j_aload_n (i := 0) (pc' := 47) dX11_check_46 rfl rfl 0 rfl ?_
      obtain ⟨v12, e12, H⟩ := bs H
      refine j_getR (pc' := 50) dX11_check_47 rfl fl_X11_10 e12 (fun r12 => ?_)
      refine j_iload_n (i := 1) (pc' := 51) dX11_check_50 rfl rfl 1 rfl ?_
      refine j_aload_n (i := 0) (pc' := 52) dX11_check_51 rfl rfl 0 rfl ?_
      obtain ⟨v13, e13, H⟩ := bs H
      refine j_getR (pc' := 55) dX11_check_52 rfl fl_X11_44 e13 (fun r13 => ?_)
      obtain ⟨p14, e14, H⟩ := bs H
      refine j_cSl (y := yX0_ofParting) (dY := 5) (vs := [vr v12, vi a1, vr v13]) (st := []) (pc' := 58) dX11_check_55 rfl ymX0_ofParting ysX0_ofParting ml_X11_187 (by decide) rfl (Nat.le_of_ble_eq_true rfl) (Nat.le_of_ble_eq_true rfl) (tX0_ofParting v12 a1 v13 h8 ra1 e14) (fun r14 z14 => ?_)
      refine j_goto (tgt := 62) dX11_check_58 (by decide) ?_
      refine j_sub (lv' := [(0, vr a0), (2, vl a2), (4, vi v5)]) [0, 2, 3] rfl ?_
      exact tX11_check_62   a0 a2 v5 p14.1 p14.2 ra2 r5 r14 H
  · rw [if_pos c2] at H
    refine j_aload_n (i := 0) (pc' := 8) dX11_check_7 rfl rfl 0 rfl ?_
    refine j_iconst (pc' := 9) dX11_check_8 rfl ?_
    obtain ⟨u15, e15, H⟩ := bs H
    obtain ⟨p16, e16, H⟩ := bs H
    refine j_cVi (y := yX11_refuse) (dY := 1) (vs := [vi 1]) (st := []) (q := a0) (pc' := 12) dX11_check_9 rfl ymX11_refuse yvX11_refuse ml_X11_105 (by decide) rfl (Nat.le_of_ble_eq_true rfl) (Nat.le_of_ble_eq_true rfl) e15 (tX11_refuse a0 1 p1.2 ⟨by decide, by decide⟩ e16) (fun r16 z16 => ?_)
    obtain rfl := Option.some.inj H
    exact j_iret dX11_check_12 r16 ⟨rfl, rfl⟩
-- X11_load
noncomputable def fX11_load (a0 : Nat) (h : Hp) : Option (Int × Hp) :=
  (getR h 10 a0 5).bind fun v1 => (getI h 5 v1 0).bind fun v2 => (getR h 10 a0 0).bind fun v3 => (getI h 6 v3 0).bind fun v4 => if v2 = v4 then ((cob h 10 a0).bind fun _ => (crf h a0).bind fun _ => (fX11_change a0 h).bind fun h8 => (getR h8 10 a0 0).bind fun v9 => (getR h8 6 v9 5).bind fun v10 => (getR h8 10 a0 5).bind fun v11 => (cob h8 5 v10).bind fun _ => (fX6_copyFrom v10 v11 h8).bind fun h13 => (getR h13 10 a0 0).bind fun v14 => (getR h13 6 v14 5).bind fun v15 => (cob h13 5 v15).bind fun _ => (fX6_renumber v15 h13).bind fun h17 => (getR h17 10 a0 5).bind fun v18 => (putV h17 5 v18 0 (vi 0)).bind fun h19 => (getR h19 10 a0 0).bind fun v20 => (getR h19 6 v20 5).bind fun v21 => (getI h19 5 v21 1).bind fun v22 => some (v22, h19)) else ((cob h 10 a0).bind fun _ => (fX11_refuse a0 1 h).bind fun p24 => some (p24.1, p24.2))
theorem tX11_load {L : Nat} {xs : Nat → Int32} {l : Launch} {res : Int × Hp} (a0 : Nat) (h : Hp)  (H : fX11_load a0 h = some res) : J L xs l RX11 cX11_load 1 false 5 (QI res) 8 515 0 (alv 0 [vr a0]) [] h := by
  unfold fX11_load at H
  show J L xs l RX11 cX11_load 1 false 5 (QI res) 8 515 0 [(0, vr a0)] [] h
  refine j_aload_n (i := 0) (pc' := 1) dX11_load_0 rfl rfl 0 rfl ?_
  obtain ⟨v1, e1, H⟩ := bs H
  refine j_getR (pc' := 4) dX11_load_1 rfl fl_X11_44 e1 (fun r1 => ?_)
  obtain ⟨v2, e2, H⟩ := bs H
  refine j_getI (pc' := 7) dX11_load_4 rfl fl_X11_177 e2 (fun r2 => ?_)
  refine j_aload_n (i := 0) (pc' := 8) dX11_load_7 rfl rfl 0 rfl ?_
  obtain ⟨v3, e3, H⟩ := bs H
  refine j_getR (pc' := 11) dX11_load_8 rfl fl_X11_10 e3 (fun r3 => ?_)
  obtain ⟨v4, e4, H⟩ := bs H
  refine j_getI (pc' := 14) dX11_load_11 rfl fl_X11_147 e4 (fun r4 => ?_)
  refine j_icmp_eq (tgt := 23) (pc' := 17) dX11_load_14 (by decide) rfl r2 r4 (fun c5 => ?_) (fun c5 => ?_)
  · rw [if_pos c5] at H
    refine j_aload_n (i := 0) (pc' := 24) dX11_load_23 rfl rfl 0 rfl ?_
    obtain ⟨u6, e6, H⟩ := bs H
    obtain ⟨u7, e7, H⟩ := bs H
    obtain ⟨h8, e8, H⟩ := bs H
    refine j_aVv (y := yX11_change) (dY := 4) (vs := []) (st := []) (q := a0) (mc := 8) (ms := 515) (rc := 0) (rs := 0) (pc' := 27) dX11_load_24 rfl ymX11_change yvX11_change ml_X11_95 (by decide) rfl (Nat.le_of_ble_eq_true rfl) (Nat.le_of_ble_eq_true rfl) e6 trivial ⟨(crf_R e7), trivial⟩ (tX11_change a0 h e8) ?_
    refine j_aload_n (i := 0) (pc' := 28) dX11_load_27 rfl rfl 0 rfl ?_
    obtain ⟨v9, e9, H⟩ := bs H
    refine j_getR (pc' := 31) dX11_load_28 rfl fl_X11_10 e9 (fun r9 => ?_)
    obtain ⟨v10, e10, H⟩ := bs H
    refine j_getR (pc' := 34) dX11_load_31 rfl fl_X11_163 e10 (fun r10 => ?_)
    refine j_aload_n (i := 0) (pc' := 35) dX11_load_34 rfl rfl 0 rfl ?_
    obtain ⟨v11, e11, H⟩ := bs H
    refine j_getR (pc' := 38) dX11_load_35 rfl fl_X11_44 e11 (fun r11 => ?_)
    obtain ⟨u12, e12, H⟩ := bs H
    obtain ⟨h13, e13, H⟩ := bs H
    refine j_cVv (y := yX6_copyFrom) (dY := 1) (vs := [vr v11]) (st := []) (q := v10) (pc' := 41) dX11_load_38 rfl ymX6_copyFrom yvX6_copyFrom ml_X11_263 (by decide) rfl (Nat.le_of_ble_eq_true rfl) (Nat.le_of_ble_eq_true rfl) e12 (tX6_copyFrom v10 v11 h8 e13) (fun z13 => ?_)
    refine j_aload_n (i := 0) (pc' := 42) dX11_load_41 rfl rfl 0 rfl ?_
    obtain ⟨v14, e14, H⟩ := bs H
    refine j_getR (pc' := 45) dX11_load_42 rfl fl_X11_10 e14 (fun r14 => ?_)
    obtain ⟨v15, e15, H⟩ := bs H
    refine j_getR (pc' := 48) dX11_load_45 rfl fl_X11_163 e15 (fun r15 => ?_)
    obtain ⟨u16, e16, H⟩ := bs H
    obtain ⟨h17, e17, H⟩ := bs H
    refine j_cVv (y := yX6_renumber) (dY := 2) (vs := []) (st := []) (q := v15) (pc' := 51) dX11_load_48 rfl ymX6_renumber yvX6_renumber ml_X11_172 (by decide) rfl (Nat.le_of_ble_eq_true rfl) (Nat.le_of_ble_eq_true rfl) e16 (tX6_renumber v15 h13 e17) (fun z17 => ?_)
    refine j_aload_n (i := 0) (pc' := 52) dX11_load_51 rfl rfl 0 rfl ?_
    obtain ⟨v18, e18, H⟩ := bs H
    refine j_getR (pc' := 55) dX11_load_52 rfl fl_X11_44 e18 (fun r18 => ?_)
    refine j_iconst (pc' := 56) dX11_load_55 rfl ?_
    obtain ⟨h19, e19, H⟩ := bs H
    refine j_putV (pc' := 59) dX11_load_56 rfl fp_X11_177 tI ⟨by decide, by decide⟩ e19 ?_
    refine j_aload_n (i := 0) (pc' := 60) dX11_load_59 rfl rfl 0 rfl ?_
    obtain ⟨v20, e20, H⟩ := bs H
    refine j_getR (pc' := 63) dX11_load_60 rfl fl_X11_10 e20 (fun r20 => ?_)
    obtain ⟨v21, e21, H⟩ := bs H
    refine j_getR (pc' := 66) dX11_load_63 rfl fl_X11_163 e21 (fun r21 => ?_)
    obtain ⟨v22, e22, H⟩ := bs H
    refine j_getI (pc' := 69) dX11_load_66 rfl fl_X11_166 e22 (fun r22 => ?_)
    obtain rfl := Option.some.inj H
    exact j_iret dX11_load_69 r22 ⟨rfl, rfl⟩
  · rw [if_neg c5] at H
    refine j_aload_n (i := 0) (pc' := 18) dX11_load_17 rfl rfl 0 rfl ?_
    refine j_iconst (pc' := 19) dX11_load_18 rfl ?_
    obtain ⟨u23, e23, H⟩ := bs H
    obtain ⟨p24, e24, H⟩ := bs H
    refine j_cVi (y := yX11_refuse) (dY := 1) (vs := [vi 1]) (st := []) (q := a0) (pc' := 22) dX11_load_19 rfl ymX11_refuse yvX11_refuse ml_X11_105 (by decide) rfl (Nat.le_of_ble_eq_true rfl) (Nat.le_of_ble_eq_true rfl) e23 (tX11_refuse a0 1 h ⟨by decide, by decide⟩ e24) (fun r24 z24 => ?_)
    obtain rfl := Option.some.inj H
    exact j_iret dX11_load_22 r24 ⟨rfl, rfl⟩
-- X11_undo
noncomputable def fX11_undo (a0 : Nat) (h : Hp) : Option (Int × Hp) :=
  (getR h 10 a0 1).bind fun v1 => (getI h 0 v1 0).bind fun v2 => if v2 = 0 then ((cob h 10 a0).bind fun _ => (fX11_refuse a0 2 h).bind fun p15 => some (p15.1, p15.2)) else ((putV h 10 a0 11 (vi 0)).bind fun h4 => (getR h4 10 a0 1).bind fun v5 => (getR h4 10 a0 0).bind fun v6 => (cob h4 0 v5).bind fun _ => (fX1_bringBack v5 v6 h4).bind fun h8 => (getR h8 10 a0 3).bind fun v9 => (cob h8 9 v9).bind fun _ => (fX10_drop v9 h8).bind fun h11 => (getR h11 10 a0 1).bind fun v12 => (getI h11 0 v12 0).bind fun v13 => some (v13, h11))
theorem tX11_undo {L : Nat} {xs : Nat → Int32} {l : Launch} {res : Int × Hp} (a0 : Nat) (h : Hp)  (H : fX11_undo a0 h = some res) : J L xs l RX11 cX11_undo 1 false 4 (QI res) 0 0 0 (alv 0 [vr a0]) [] h := by
  unfold fX11_undo at H
  show J L xs l RX11 cX11_undo 1 false 4 (QI res) 0 0 0 [(0, vr a0)] [] h
  refine j_aload_n (i := 0) (pc' := 1) dX11_undo_0 rfl rfl 0 rfl ?_
  obtain ⟨v1, e1, H⟩ := bs H
  refine j_getR (pc' := 4) dX11_undo_1 rfl fl_X11_19 e1 (fun r1 => ?_)
  obtain ⟨v2, e2, H⟩ := bs H
  refine j_getI (pc' := 7) dX11_undo_4 rfl fl_X11_175 e2 (fun r2 => ?_)
  refine j_if_ne (tgt := 16) (pc' := 10) dX11_undo_7 (by decide) rfl r2 (fun c3 => ?_) (fun c3 => ?_)
  · rw [if_neg c3] at H
    refine j_aload_n (i := 0) (pc' := 17) dX11_undo_16 rfl rfl 0 rfl ?_
    refine j_iconst (pc' := 18) dX11_undo_17 rfl ?_
    obtain ⟨h4, e4, H⟩ := bs H
    refine j_putV (pc' := 21) dX11_undo_18 rfl fp_X11_83 tI ⟨by decide, by decide⟩ e4 ?_
    refine j_aload_n (i := 0) (pc' := 22) dX11_undo_21 rfl rfl 0 rfl ?_
    obtain ⟨v5, e5, H⟩ := bs H
    refine j_getR (pc' := 25) dX11_undo_22 rfl fl_X11_19 e5 (fun r5 => ?_)
    refine j_aload_n (i := 0) (pc' := 26) dX11_undo_25 rfl rfl 0 rfl ?_
    obtain ⟨v6, e6, H⟩ := bs H
    refine j_getR (pc' := 29) dX11_undo_26 rfl fl_X11_10 e6 (fun r6 => ?_)
    obtain ⟨u7, e7, H⟩ := bs H
    obtain ⟨h8, e8, H⟩ := bs H
    refine j_cVv (y := yX1_bringBack) (dY := 3) (vs := [vr v6]) (st := []) (q := v5) (pc' := 32) dX11_undo_29 rfl ymX1_bringBack yvX1_bringBack ml_X11_277 (by decide) rfl (Nat.le_of_ble_eq_true rfl) (Nat.le_of_ble_eq_true rfl) e7 (tX1_bringBack v5 v6 h4 e8) (fun z8 => ?_)
    refine j_aload_n (i := 0) (pc' := 33) dX11_undo_32 rfl rfl 0 rfl ?_
    obtain ⟨v9, e9, H⟩ := bs H
    refine j_getR (pc' := 36) dX11_undo_33 rfl fl_X11_33 e9 (fun r9 => ?_)
    obtain ⟨u10, e10, H⟩ := bs H
    obtain ⟨h11, e11, H⟩ := bs H
    refine j_cVv (y := yX10_drop) (dY := 1) (vs := []) (st := []) (q := v9) (pc' := 39) dX11_undo_36 rfl ymX10_drop yvX10_drop ml_X11_98 (by decide) rfl (Nat.le_of_ble_eq_true rfl) (Nat.le_of_ble_eq_true rfl) e10 (tX10_drop v9 h8 e11) (fun z11 => ?_)
    refine j_aload_n (i := 0) (pc' := 40) dX11_undo_39 rfl rfl 0 rfl ?_
    obtain ⟨v12, e12, H⟩ := bs H
    refine j_getR (pc' := 43) dX11_undo_40 rfl fl_X11_19 e12 (fun r12 => ?_)
    obtain ⟨v13, e13, H⟩ := bs H
    refine j_getI (pc' := 46) dX11_undo_43 rfl fl_X11_175 e13 (fun r13 => ?_)
    obtain rfl := Option.some.inj H
    exact j_iret dX11_undo_46 r13 ⟨rfl, rfl⟩
  · rw [if_pos c3] at H
    refine j_aload_n (i := 0) (pc' := 11) dX11_undo_10 rfl rfl 0 rfl ?_
    refine j_iconst (pc' := 12) dX11_undo_11 rfl ?_
    obtain ⟨u14, e14, H⟩ := bs H
    obtain ⟨p15, e15, H⟩ := bs H
    refine j_cVi (y := yX11_refuse) (dY := 1) (vs := [vi 2]) (st := []) (q := a0) (pc' := 15) dX11_undo_12 rfl ymX11_refuse yvX11_refuse ml_X11_105 (by decide) rfl (Nat.le_of_ble_eq_true rfl) (Nat.le_of_ble_eq_true rfl) e14 (tX11_refuse a0 2 h ⟨by decide, by decide⟩ e15) (fun r15 z15 => ?_)
    obtain rfl := Option.some.inj H
    exact j_iret dX11_undo_15 r15 ⟨rfl, rfl⟩
