-- X12_check
noncomputable def fX12_check_59 (s0 : Int) (h : Hp) : Option (Int × Hp) :=
  some (s0, h)
theorem tX12_check_59 {L : Nat} {xs : Nat → Int32} {l : Launch} {res : Int × Hp} (s0 : Int) (h : Hp) (rs0 : R32 s0) (H : fX12_check_59 s0 h = some res) : J L xs l RX12 cX12_check 5 false 5 (QI res) 0 0 59 [] [vi s0] h := by
  unfold fX12_check_59 at H
  obtain rfl := Option.some.inj H
  exact j_iret dX12_check_59 rs0 ⟨rfl, rfl⟩
noncomputable def fX12_check (a0 : Nat) (a1 : Int) (a2 : Int) (h : Hp) : Option (Int × Hp) :=
  (putV h 11 a0 19 (vi 0)).bind fun h1 => (fX12_isGoal a1 h1).bind fun p2 => if p2.1 = 0 then ((cob p2.2 11 a0).bind fun _ => (fX12_no a0 1 p2.2).bind fun p15 => some (p15.1, p15.2)) else ((cob p2.2 11 a0).bind fun _ => (fX12_takeList a0 p2.2).bind fun p5 => (putV p5.2 11 a0 18 (vi 0)).bind fun h6 => if p5.1 = 0 then (some (0, h6)) else ((cob h6 11 a0).bind fun _ => (fX12_useWays a0 h6).bind fun h9 => (getR h9 11 a0 20).bind fun v10 => (cob h9 11 a0).bind fun _ => (fX12_costOf a0 v10 a1 h9).bind fun p12 => if (lCmp p12.1 a2) = 0 then (fX12_check_59 2 p12.2) else (fX12_check_59 1 p12.2)))
theorem tX12_check {L : Nat} {xs : Nat → Int32} {l : Launch} {res : Int × Hp} (a0 : Nat) (a1 : Int) (a2 : Int) (h : Hp) (ra1 : R32 a1) (ra2 : R64 a2) (H : fX12_check a0 a1 a2 h = some res) : J L xs l RX12 cX12_check 5 false 5 (QI res) 0 0 0 (alv 0 [vr a0, vi a1, vl a2]) [] h := by
  unfold fX12_check at H
  show J L xs l RX12 cX12_check 5 false 5 (QI res) 0 0 0 [(0, vr a0), (1, vi a1), (2, vl a2)] [] h
  refine j_aload_n (i := 0) (pc' := 1) dX12_check_0 rfl rfl 0 rfl ?_
  refine j_iconst (pc' := 2) dX12_check_1 rfl ?_
  obtain ⟨h1, e1, H⟩ := bs H
  refine j_putV (pc' := 5) dX12_check_2 rfl fp_X12_77 tI ⟨by decide, by decide⟩ e1 ?_
  refine j_iload_n (i := 1) (pc' := 6) dX12_check_5 rfl rfl 1 rfl ?_
  obtain ⟨p2, e2, H⟩ := bs H
  refine j_cSb (y := yX12_isGoal) (dY := 1) (vs := [vi a1]) (st := []) (pc' := 9) dX12_check_6 rfl ymX12_isGoal ysX12_isGoal ml_X12_157 (by decide) rfl (Nat.le_of_ble_eq_true rfl) (Nat.le_of_ble_eq_true rfl) (tX12_isGoal a1 h1 ra1 e2) (fun r2 b2 z2 => ?_)
  refine j_if_ne (tgt := 18) (pc' := 12) dX12_check_9 (by decide) rfl r2 (fun c3 => ?_) (fun c3 => ?_)
  · rw [if_neg c3] at H
    refine j_aload_n (i := 0) (pc' := 19) dX12_check_18 rfl rfl 0 rfl ?_
    obtain ⟨u4, e4, H⟩ := bs H
    obtain ⟨p5, e5, H⟩ := bs H
    refine j_cVb (y := yX12_takeList) (dY := 3) (vs := []) (st := []) (q := a0) (pc' := 22) dX12_check_19 rfl ymX12_takeList yvX12_takeList ml_X12_221 (by decide) rfl (Nat.le_of_ble_eq_true rfl) (Nat.le_of_ble_eq_true rfl) e4 (tX12_takeList a0 p2.2 e5) (fun r5 b5 z5 => ?_)
    refine j_istore (lv' := [(0, vr a0), (1, vi a1), (2, vl a2), (4, vi p5.1)]) (pc' := 24) dX12_check_22 rfl (by decide) [1, 2, 3, 0] rfl ?_
    refine j_aload_n (i := 0) (pc' := 25) dX12_check_24 rfl rfl 0 rfl ?_
    refine j_iconst (pc' := 26) dX12_check_25 rfl ?_
    obtain ⟨h6, e6, H⟩ := bs H
    refine j_putV (pc' := 29) dX12_check_26 rfl fp_X12_154 tI ⟨by decide, by decide⟩ e6 ?_
    refine j_iload (pc' := 31) dX12_check_29 rfl 3 rfl ?_
    refine j_if_ne (tgt := 36) (pc' := 34) dX12_check_31 (by decide) rfl r5 (fun c7 => ?_) (fun c7 => ?_)
    · rw [if_neg c7] at H
      refine j_aload_n (i := 0) (pc' := 37) dX12_check_36 rfl rfl 0 rfl ?_
      obtain ⟨u8, e8, H⟩ := bs H
      obtain ⟨h9, e9, H⟩ := bs H
      refine j_cVv (y := yX12_useWays) (dY := 1) (vs := []) (st := []) (q := a0) (pc' := 40) dX12_check_37 rfl ymX12_useWays yvX12_useWays ml_X12_160 (by decide) rfl (Nat.le_of_ble_eq_true rfl) (Nat.le_of_ble_eq_true rfl) e8 (tX12_useWays a0 h6 e9) (fun z9 => ?_)
      refine j_aload_n (i := 0) (pc' := 41) dX12_check_40 rfl rfl 0 rfl ?_
      refine j_aload_n (i := 0) (pc' := 42) dX12_check_41 rfl rfl 0 rfl ?_
      obtain ⟨v10, e10, H⟩ := bs H
      refine j_getR (pc' := 45) dX12_check_42 rfl fl_X12_58 e10 (fun r10 => ?_)
      refine j_iload_n (i := 1) (pc' := 46) dX12_check_45 rfl rfl 1 rfl ?_
      obtain ⟨u11, e11, H⟩ := bs H
      obtain ⟨p12, e12, H⟩ := bs H
      refine j_cVl (y := yX12_costOf) (dY := 4) (vs := [vr v10, vi a1]) (st := []) (q := a0) (pc' := 49) dX12_check_46 rfl ymX12_costOf yvX12_costOf ml_X12_163 (by decide) rfl (Nat.le_of_ble_eq_true rfl) (Nat.le_of_ble_eq_true rfl) e11 (tX12_costOf a0 v10 a1 h9 ra1 e12) (fun r12 z12 => ?_)
      refine j_lload_n (i := 2) (pc' := 50) dX12_check_49 rfl rfl 2 rfl ?_
      refine j_lcmp (pc' := 51) dX12_check_50 rfl r12 ra2 ?_
      refine j_if_ne (tgt := 58) (pc' := 54) dX12_check_51 (by decide) rfl (R32_lcmp _ _) (fun c13 => ?_) (fun c13 => ?_)
      · rw [if_neg c13] at H
        refine j_iconst (pc' := 59) dX12_check_58 rfl ?_
        refine j_sub (lv' := []) [] rfl ?_
        exact tX12_check_59   1 p12.2 ⟨by decide, by decide⟩ H
      · rw [if_pos c13] at H
        refine j_iconst (pc' := 55) dX12_check_54 rfl ?_
        refine j_goto (tgt := 59) dX12_check_55 (by decide) ?_
        refine j_sub (lv' := []) [] rfl ?_
        exact tX12_check_59   2 p12.2 ⟨by decide, by decide⟩ H
    · rw [if_pos c7] at H
      refine j_iconst (pc' := 35) dX12_check_34 rfl ?_
      obtain rfl := Option.some.inj H
      exact j_iret dX12_check_35 ⟨by decide, by decide⟩ ⟨rfl, rfl⟩
  · rw [if_pos c3] at H
    refine j_aload_n (i := 0) (pc' := 13) dX12_check_12 rfl rfl 0 rfl ?_
    refine j_iconst (pc' := 14) dX12_check_13 rfl ?_
    obtain ⟨u14, e14, H⟩ := bs H
    obtain ⟨p15, e15, H⟩ := bs H
    refine j_cVi (y := yX12_no) (dY := 1) (vs := [vi 1]) (st := []) (q := a0) (pc' := 17) dX12_check_14 rfl ymX12_no yvX12_no ml_X12_98 (by decide) rfl (Nat.le_of_ble_eq_true rfl) (Nat.le_of_ble_eq_true rfl) e14 (tX12_no a0 1 p2.2 ⟨by decide, by decide⟩ e15) (fun r15 z15 => ?_)
    obtain rfl := Option.some.inj H
    exact j_iret dX12_check_17 r15 ⟨rfl, rfl⟩
-- X12_load
noncomputable def fX12_load (a0 : Nat) (h : Hp) : Option (Int × Hp) :=
  (putV h 11 a0 19 (vi 0)).bind fun h1 => (cob h1 11 a0).bind fun _ => (fX12_takeList a0 h1).bind fun p3 => if p3.1 = 0 then ((cob p3.2 11 a0).bind fun _ => (fX12_no a0 1 p3.2).bind fun p15 => some (p15.1, p15.2)) else ((cob p3.2 11 a0).bind fun _ => (fX12_change a0 p3.2).bind fun h6 => (putV h6 11 a0 18 (vi 0)).bind fun h7 => (getR h7 11 a0 20).bind fun v8 => (cob h7 11 a0).bind fun _ => (fX12_become a0 v8 h7).bind fun h10 => (getR h10 11 a0 20).bind fun v11 => (cob h10 11 a0).bind fun _ => (fX12_heaps a0 v11 h10).bind fun p13 => some (p13.1, p13.2))
theorem tX12_load {L : Nat} {xs : Nat → Int32} {l : Launch} {res : Int × Hp} (a0 : Nat) (h : Hp)  (H : fX12_load a0 h = some res) : J L xs l RX12 cX12_load 1 false 4 (QI res) 0 0 0 (alv 0 [vr a0]) [] h := by
  unfold fX12_load at H
  show J L xs l RX12 cX12_load 1 false 4 (QI res) 0 0 0 [(0, vr a0)] [] h
  refine j_aload_n (i := 0) (pc' := 1) dX12_load_0 rfl rfl 0 rfl ?_
  refine j_iconst (pc' := 2) dX12_load_1 rfl ?_
  obtain ⟨h1, e1, H⟩ := bs H
  refine j_putV (pc' := 5) dX12_load_2 rfl fp_X12_77 tI ⟨by decide, by decide⟩ e1 ?_
  refine j_aload_n (i := 0) (pc' := 6) dX12_load_5 rfl rfl 0 rfl ?_
  obtain ⟨u2, e2, H⟩ := bs H
  obtain ⟨p3, e3, H⟩ := bs H
  refine j_cVb (y := yX12_takeList) (dY := 3) (vs := []) (st := []) (q := a0) (pc' := 9) dX12_load_6 rfl ymX12_takeList yvX12_takeList ml_X12_221 (by decide) rfl (Nat.le_of_ble_eq_true rfl) (Nat.le_of_ble_eq_true rfl) e2 (tX12_takeList a0 h1 e3) (fun r3 b3 z3 => ?_)
  refine j_if_ne (tgt := 18) (pc' := 12) dX12_load_9 (by decide) rfl r3 (fun c4 => ?_) (fun c4 => ?_)
  · rw [if_neg c4] at H
    refine j_aload_n (i := 0) (pc' := 19) dX12_load_18 rfl rfl 0 rfl ?_
    obtain ⟨u5, e5, H⟩ := bs H
    obtain ⟨h6, e6, H⟩ := bs H
    refine j_cVv (y := yX12_change) (dY := 2) (vs := []) (st := []) (q := a0) (pc' := 22) dX12_load_19 rfl ymX12_change yvX12_change ml_X12_102 (by decide) rfl (Nat.le_of_ble_eq_true rfl) (Nat.le_of_ble_eq_true rfl) e5 (tX12_change a0 p3.2 e6) (fun z6 => ?_)
    refine j_aload_n (i := 0) (pc' := 23) dX12_load_22 rfl rfl 0 rfl ?_
    refine j_iconst (pc' := 24) dX12_load_23 rfl ?_
    obtain ⟨h7, e7, H⟩ := bs H
    refine j_putV (pc' := 27) dX12_load_24 rfl fp_X12_154 tI ⟨by decide, by decide⟩ e7 ?_
    refine j_aload_n (i := 0) (pc' := 28) dX12_load_27 rfl rfl 0 rfl ?_
    refine j_aload_n (i := 0) (pc' := 29) dX12_load_28 rfl rfl 0 rfl ?_
    obtain ⟨v8, e8, H⟩ := bs H
    refine j_getR (pc' := 32) dX12_load_29 rfl fl_X12_58 e8 (fun r8 => ?_)
    obtain ⟨u9, e9, H⟩ := bs H
    obtain ⟨h10, e10, H⟩ := bs H
    refine j_cVv (y := yX12_become) (dY := 2) (vs := [vr v8]) (st := []) (q := a0) (pc' := 35) dX12_load_32 rfl ymX12_become yvX12_become ml_X12_150 (by decide) rfl (Nat.le_of_ble_eq_true rfl) (Nat.le_of_ble_eq_true rfl) e9 (tX12_become a0 v8 h7 e10) (fun z10 => ?_)
    refine j_aload_n (i := 0) (pc' := 36) dX12_load_35 rfl rfl 0 rfl ?_
    refine j_aload_n (i := 0) (pc' := 37) dX12_load_36 rfl rfl 0 rfl ?_
    obtain ⟨v11, e11, H⟩ := bs H
    refine j_getR (pc' := 40) dX12_load_37 rfl fl_X12_58 e11 (fun r11 => ?_)
    obtain ⟨u12, e12, H⟩ := bs H
    obtain ⟨p13, e13, H⟩ := bs H
    refine j_cVi (y := yX12_heaps) (dY := 2) (vs := [vr v11]) (st := []) (q := a0) (pc' := 43) dX12_load_40 rfl ymX12_heaps yvX12_heaps ml_X12_133 (by decide) rfl (Nat.le_of_ble_eq_true rfl) (Nat.le_of_ble_eq_true rfl) e12 (tX12_heaps a0 v11 h10 e13) (fun r13 z13 => ?_)
    obtain rfl := Option.some.inj H
    exact j_iret dX12_load_43 r13 ⟨rfl, rfl⟩
  · rw [if_pos c4] at H
    refine j_aload_n (i := 0) (pc' := 13) dX12_load_12 rfl rfl 0 rfl ?_
    refine j_iconst (pc' := 14) dX12_load_13 rfl ?_
    obtain ⟨u14, e14, H⟩ := bs H
    obtain ⟨p15, e15, H⟩ := bs H
    refine j_cVi (y := yX12_no) (dY := 1) (vs := [vi 1]) (st := []) (q := a0) (pc' := 17) dX12_load_14 rfl ymX12_no yvX12_no ml_X12_98 (by decide) rfl (Nat.le_of_ble_eq_true rfl) (Nat.le_of_ble_eq_true rfl) e14 (tX12_no a0 1 p3.2 ⟨by decide, by decide⟩ e15) (fun r15 z15 => ?_)
    obtain rfl := Option.some.inj H
    exact j_iret dX12_load_17 r15 ⟨rfl, rfl⟩
-- X12_undo
noncomputable def fX12_undo (a0 : Nat) (h : Hp) : Option (Int × Hp) :=
  (putV h 11 a0 19 (vi 0)).bind fun h1 => (getI h1 11 a0 6).bind fun v2 => if v2 = 0 then ((cob h1 11 a0).bind fun _ => (fX12_no a0 2 h1).bind fun p15 => some (p15.1, p15.2)) else ((getI h1 11 a0 6).bind fun v4 => (c32 (v4 - 1)).bind fun _ => (putV h1 11 a0 6 (vi (v4 - 1))).bind fun h6 => (getI h6 11 a0 7).bind fun v7 => (getI h6 11 a0 6).bind fun v8 => (c32 (1 + (bRem (v7 + v8) 20))).bind fun _ => (cob h6 11 a0).bind fun _ => (fX12_copy a0 (1 + (bRem (v7 + v8) 20)) 0 h6).bind fun h11 => (putV h11 11 a0 11 (vi (-1))).bind fun h12 => (getI h12 11 a0 6).bind fun v13 => some (v13, h12))
theorem tX12_undo {L : Nat} {xs : Nat → Int32} {l : Launch} {res : Int × Hp} (a0 : Nat) (h : Hp)  (H : fX12_undo a0 h = some res) : J L xs l RX12 cX12_undo 1 false 2 (QI res) 0 0 0 (alv 0 [vr a0]) [] h := by
  unfold fX12_undo at H
  show J L xs l RX12 cX12_undo 1 false 2 (QI res) 0 0 0 [(0, vr a0)] [] h
  refine j_aload_n (i := 0) (pc' := 1) dX12_undo_0 rfl rfl 0 rfl ?_
  refine j_iconst (pc' := 2) dX12_undo_1 rfl ?_
  obtain ⟨h1, e1, H⟩ := bs H
  refine j_putV (pc' := 5) dX12_undo_2 rfl fp_X12_77 tI ⟨by decide, by decide⟩ e1 ?_
  refine j_aload_n (i := 0) (pc' := 6) dX12_undo_5 rfl rfl 0 rfl ?_
  obtain ⟨v2, e2, H⟩ := bs H
  refine j_getI (pc' := 9) dX12_undo_6 rfl fl_X12_80 e2 (fun r2 => ?_)
  refine j_if_ne (tgt := 18) (pc' := 12) dX12_undo_9 (by decide) rfl r2 (fun c3 => ?_) (fun c3 => ?_)
  · rw [if_neg c3] at H
    refine j_aload_n (i := 0) (pc' := 19) dX12_undo_18 rfl rfl 0 rfl ?_
    refine j_dup (pc' := 20) dX12_undo_19 rfl rfl ?_
    obtain ⟨v4, e4, H⟩ := bs H
    refine j_getI (pc' := 23) dX12_undo_20 rfl fl_X12_80 e4 (fun r4 => ?_)
    refine j_iconst (pc' := 24) dX12_undo_23 rfl ?_
    refine j_isub (pc' := 25) dX12_undo_24 rfl ?_
    obtain ⟨u5, e5, H⟩ := bs H
    have r5 := c32_R e5
    obtain ⟨h6, e6, H⟩ := bs H
    refine j_putV (pc' := 28) dX12_undo_25 rfl fp_X12_80 tI r5 e6 ?_
    refine j_aload_n (i := 0) (pc' := 29) dX12_undo_28 rfl rfl 0 rfl ?_
    refine j_iconst (pc' := 30) dX12_undo_29 rfl ?_
    refine j_aload_n (i := 0) (pc' := 31) dX12_undo_30 rfl rfl 0 rfl ?_
    obtain ⟨v7, e7, H⟩ := bs H
    refine j_getI (pc' := 34) dX12_undo_31 rfl fl_X12_83 e7 (fun r7 => ?_)
    refine j_aload_n (i := 0) (pc' := 35) dX12_undo_34 rfl rfl 0 rfl ?_
    obtain ⟨v8, e8, H⟩ := bs H
    refine j_getI (pc' := 38) dX12_undo_35 rfl fl_X12_80 e8 (fun r8 => ?_)
    refine j_iadd (pc' := 39) dX12_undo_38 rfl ?_
    refine j_bipush (pc' := 41) dX12_undo_39 rfl (by decide +kernel) ?_
    refine j_irem (pc' := 42) dX12_undo_41 rfl ⟨by decide, by decide⟩ (by decide) ?_
    refine j_iadd (pc' := 43) dX12_undo_42 rfl ?_
    refine j_iconst (pc' := 44) dX12_undo_43 rfl ?_
    obtain ⟨u9, e9, H⟩ := bs H
    have r9 := c32_R e9
    obtain ⟨u10, e10, H⟩ := bs H
    obtain ⟨h11, e11, H⟩ := bs H
    refine j_cVv (y := yX12_copy) (dY := 1) (vs := [vi (1 + (bRem (v7 + v8) 20)), vi 0]) (st := []) (q := a0) (pc' := 47) dX12_undo_44 rfl ymX12_copy yvX12_copy ml_X12_86 (by decide) rfl (Nat.le_of_ble_eq_true rfl) (Nat.le_of_ble_eq_true rfl) e10 (tX12_copy a0 (1 + (bRem (v7 + v8) 20)) 0 h6 r9 ⟨by decide, by decide⟩ e11) (fun z11 => ?_)
    refine j_aload_n (i := 0) (pc' := 48) dX12_undo_47 rfl rfl 0 rfl ?_
    refine j_iconst (pc' := 49) dX12_undo_48 rfl ?_
    obtain ⟨h12, e12, H⟩ := bs H
    refine j_putV (pc' := 52) dX12_undo_49 rfl fp_X12_37 tI ⟨by decide, by decide⟩ e12 ?_
    refine j_aload_n (i := 0) (pc' := 53) dX12_undo_52 rfl rfl 0 rfl ?_
    obtain ⟨v13, e13, H⟩ := bs H
    refine j_getI (pc' := 56) dX12_undo_53 rfl fl_X12_80 e13 (fun r13 => ?_)
    obtain rfl := Option.some.inj H
    exact j_iret dX12_undo_56 r13 ⟨rfl, rfl⟩
  · rw [if_pos c3] at H
    refine j_aload_n (i := 0) (pc' := 13) dX12_undo_12 rfl rfl 0 rfl ?_
    refine j_iconst (pc' := 14) dX12_undo_13 rfl ?_
    obtain ⟨u14, e14, H⟩ := bs H
    obtain ⟨p15, e15, H⟩ := bs H
    refine j_cVi (y := yX12_no) (dY := 1) (vs := [vi 2]) (st := []) (q := a0) (pc' := 17) dX12_undo_14 rfl ymX12_no yvX12_no ml_X12_98 (by decide) rfl (Nat.le_of_ble_eq_true rfl) (Nat.le_of_ble_eq_true rfl) e14 (tX12_no a0 2 h1 ⟨by decide, by decide⟩ e15) (fun r15 z15 => ?_)
    obtain rfl := Option.some.inj H
    exact j_iret dX12_undo_17 r15 ⟨rfl, rfl⟩
-- X12_fault
noncomputable def fX12_fault (a0 : Nat) (h : Hp) : Option (Int × Hp) :=
  (getI h 11 a0 19).bind fun v1 => some (v1, h)
theorem tX12_fault {L : Nat} {xs : Nat → Int32} {l : Launch} {res : Int × Hp} (a0 : Nat) (h : Hp)  (H : fX12_fault a0 h = some res) : J L xs l RX12 cX12_fault 1 false 1 (QI res) 0 0 0 (alv 0 [vr a0]) [] h := by
  unfold fX12_fault at H
  show J L xs l RX12 cX12_fault 1 false 1 (QI res) 0 0 0 [(0, vr a0)] [] h
  refine j_aload_n (i := 0) (pc' := 1) dX12_fault_0 rfl rfl 0 rfl ?_
  obtain ⟨v1, e1, H⟩ := bs H
  refine j_getI (pc' := 4) dX12_fault_1 rfl fl_X12_77 e1 (fun r1 => ?_)
  obtain rfl := Option.some.inj H
  exact j_iret dX12_fault_4 r1 ⟨rfl, rfl⟩
-- L_law
noncomputable def fL_law_1229 (L : Nat) (xs : Nat → Int32)  (h : Hp) : Option (Int × Hp) :=
  some (1, h)
theorem tL_law_1229 {L : Nat} {xs : Nat → Int32} {l : Launch} {res : Int × Hp} (hL : L < 2147483648)  (h : Hp)  (H : fL_law_1229 L xs  h = some res) : J L xs l RL cL_law 4 false 27 (QB res) 0 0 1229 [] [] h := by
  unfold fL_law_1229 at H
  refine j_iconst (pc' := 1230) dL_law_1229 rfl ?_
  obtain rfl := Option.some.inj H
  exact j_iret dL_law_1230 ⟨by decide, by decide⟩ ⟨rfl, rfl, Or.inr rfl⟩
noncomputable def fL_law_1223 (L : Nat) (xs : Nat → Int32) (k18 : Nat → Nat → Nat → Int → Hp → Option (Int × Hp)) (x0 : Nat) (x1 : Nat) (x2 : Nat) (x3 : Int) (h : Hp) : Option (Int × Hp) :=
  (c32 (x3 + 5)).bind fun _ => k18 1000000 x1 x2 (x3 + 5) h
theorem tL_law_1223 {L : Nat} {xs : Nat → Int32} {l : Launch} {res : Int × Hp} (hL : L < 2147483648) {n : Nat} (k18 : Nat → Nat → Nat → Int → Hp → Option (Int × Hp)) (hk18 : ∀ (x0 : Nat) (x1 : Nat) (x2 : Nat) (x3 : Int) (h : Hp), R32 x3 → k18 x0 x1 x2 x3 h = some res → J L xs l RL cL_law 4 false 27 (QB res) (8 * n) (515 * n) 18 [(0, vr 1000000), (1, vr x1), (2, vr x2), (3, vi x3)] [] h) (x0 : Nat) (x1 : Nat) (x2 : Nat) (x3 : Int) (h : Hp) (rx3 : R32 x3) (H : fL_law_1223 L xs k18 x0 x1 x2 x3 h = some res) : J L xs l RL cL_law 4 false 27 (QB res) (8 * n) (515 * n) 1223 [(0, vr 1000000), (1, vr x1), (2, vr x2), (3, vi x3)] [] h := by
  unfold fL_law_1223 at H
  obtain ⟨u1, e1, H⟩ := bs H
  have r1 := c32_R e1
  refine j_iinc (k0 := 3) (lv' := [(0, vr 1000000), (1, vr x1), (2, vr x2), (3, vi (x3 + 5))]) (pc' := 1226) dL_law_1223 rfl rfl (by decide) [1, 2, 3, 0] rfl ?_
  refine j_goto (tgt := 18) dL_law_1226 (by decide) ?_
  exact hk18 1000000 x1 x2 (x3 + 5) h r1 H
noncomputable def fL_law_213 (L : Nat) (xs : Nat → Int32)  (h : Hp) : Option (Int × Hp) :=
  some (0, h)
theorem tL_law_213 {L : Nat} {xs : Nat → Int32} {l : Launch} {res : Int × Hp} (hL : L < 2147483648)  (h : Hp)  (H : fL_law_213 L xs  h = some res) : J L xs l RL cL_law 4 false 27 (QB res) 0 0 213 [] [] h := by
  unfold fL_law_213 at H
  refine j_iconst (pc' := 214) dL_law_213 rfl ?_
  obtain rfl := Option.some.inj H
  exact j_iret dL_law_214 ⟨by decide, by decide⟩ ⟨rfl, rfl, Or.inl rfl⟩
noncomputable def fL_law_256 (L : Nat) (xs : Nat → Int32)  (h : Hp) : Option (Int × Hp) :=
  some (0, h)
theorem tL_law_256 {L : Nat} {xs : Nat → Int32} {l : Launch} {res : Int × Hp} (hL : L < 2147483648)  (h : Hp)  (H : fL_law_256 L xs  h = some res) : J L xs l RL cL_law 4 false 27 (QB res) 0 0 256 [] [] h := by
  unfold fL_law_256 at H
  refine j_iconst (pc' := 257) dL_law_256 rfl ?_
  obtain rfl := Option.some.inj H
  exact j_iret dL_law_257 ⟨by decide, by decide⟩ ⟨rfl, rfl, Or.inl rfl⟩
noncomputable def fL_law_289 (L : Nat) (xs : Nat → Int32)  (h : Hp) : Option (Int × Hp) :=
  some (0, h)
theorem tL_law_289 {L : Nat} {xs : Nat → Int32} {l : Launch} {res : Int × Hp} (hL : L < 2147483648)  (h : Hp)  (H : fL_law_289 L xs  h = some res) : J L xs l RL cL_law 4 false 27 (QB res) 0 0 289 [] [] h := by
  unfold fL_law_289 at H
  refine j_iconst (pc' := 290) dL_law_289 rfl ?_
  obtain rfl := Option.some.inj H
  exact j_iret dL_law_290 ⟨by decide, by decide⟩ ⟨rfl, rfl, Or.inl rfl⟩
noncomputable def fL_law_352 (L : Nat) (xs : Nat → Int32)  (h : Hp) : Option (Int × Hp) :=
  some (0, h)
theorem tL_law_352 {L : Nat} {xs : Nat → Int32} {l : Launch} {res : Int × Hp} (hL : L < 2147483648)  (h : Hp)  (H : fL_law_352 L xs  h = some res) : J L xs l RL cL_law 4 false 27 (QB res) 0 0 352 [] [] h := by
  unfold fL_law_352 at H
  refine j_iconst (pc' := 353) dL_law_352 rfl ?_
  obtain rfl := Option.some.inj H
  exact j_iret dL_law_353 ⟨by decide, by decide⟩ ⟨rfl, rfl, Or.inl rfl⟩
noncomputable def fL_law_375 (L : Nat) (xs : Nat → Int32)  (h : Hp) : Option (Int × Hp) :=
  some (0, h)
theorem tL_law_375 {L : Nat} {xs : Nat → Int32} {l : Launch} {res : Int × Hp} (hL : L < 2147483648)  (h : Hp)  (H : fL_law_375 L xs  h = some res) : J L xs l RL cL_law 4 false 27 (QB res) 0 0 375 [] [] h := by
  unfold fL_law_375 at H
  refine j_iconst (pc' := 376) dL_law_375 rfl ?_
  obtain rfl := Option.some.inj H
  exact j_iret dL_law_376 ⟨by decide, by decide⟩ ⟨rfl, rfl, Or.inl rfl⟩
noncomputable def fL_law_398 (L : Nat) (xs : Nat → Int32)  (h : Hp) : Option (Int × Hp) :=
  some (0, h)
theorem tL_law_398 {L : Nat} {xs : Nat → Int32} {l : Launch} {res : Int × Hp} (hL : L < 2147483648)  (h : Hp)  (H : fL_law_398 L xs  h = some res) : J L xs l RL cL_law 4 false 27 (QB res) 0 0 398 [] [] h := by
  unfold fL_law_398 at H
  refine j_iconst (pc' := 399) dL_law_398 rfl ?_
  obtain rfl := Option.some.inj H
  exact j_iret dL_law_399 ⟨by decide, by decide⟩ ⟨rfl, rfl, Or.inl rfl⟩
noncomputable def fL_law_467 (L : Nat) (xs : Nat → Int32)  (h : Hp) : Option (Int × Hp) :=
  some (0, h)
theorem tL_law_467 {L : Nat} {xs : Nat → Int32} {l : Launch} {res : Int × Hp} (hL : L < 2147483648)  (h : Hp)  (H : fL_law_467 L xs  h = some res) : J L xs l RL cL_law 4 false 27 (QB res) 0 0 467 [] [] h := by
  unfold fL_law_467 at H
  refine j_iconst (pc' := 468) dL_law_467 rfl ?_
  obtain rfl := Option.some.inj H
  exact j_iret dL_law_468 ⟨by decide, by decide⟩ ⟨rfl, rfl, Or.inl rfl⟩
noncomputable def fL_law_461 (L : Nat) (xs : Nat → Int32) (k18 : Nat → Nat → Nat → Int → Hp → Option (Int × Hp)) (x0 : Nat) (x1 : Nat) (x2 : Nat) (x3 : Int) (s0 : Int) (s1 : Int) (s2 : Int) (s3 : Int) (s4 : Nat) (s5 : Int) (h : Hp) : Option (Int × Hp) :=
  (cob h 11 s4).bind fun _ => (fX12_quarrel s4 s3 s2 s1 s0 h).bind fun p2 => if s5 = p2.1 then (fL_law_1223 L xs k18 1000000 x1 x2 x3 p2.2) else (fL_law_467 L xs p2.2)
theorem tL_law_461 {L : Nat} {xs : Nat → Int32} {l : Launch} {res : Int × Hp} (hL : L < 2147483648) {n : Nat} (k18 : Nat → Nat → Nat → Int → Hp → Option (Int × Hp)) (hk18 : ∀ (x0 : Nat) (x1 : Nat) (x2 : Nat) (x3 : Int) (h : Hp), R32 x3 → k18 x0 x1 x2 x3 h = some res → J L xs l RL cL_law 4 false 27 (QB res) (8 * n) (515 * n) 18 [(0, vr 1000000), (1, vr x1), (2, vr x2), (3, vi x3)] [] h) (x0 : Nat) (x1 : Nat) (x2 : Nat) (x3 : Int) (s0 : Int) (s1 : Int) (s2 : Int) (s3 : Int) (s4 : Nat) (s5 : Int) (h : Hp) (rx3 : R32 x3) (rs0 : R32 s0) (rs1 : R32 s1) (rs2 : R32 s2) (rs3 : R32 s3) (rs5 : R32 s5) (H : fL_law_461 L xs k18 x0 x1 x2 x3 s0 s1 s2 s3 s4 s5 h = some res) : J L xs l RL cL_law 4 false 27 (QB res) (8 * n) (515 * n) 461 [(0, vr 1000000), (1, vr x1), (2, vr x2), (3, vi x3)] [vi s0, vi s1, vi s2, vi s3, vr s4, vi s5] h := by
  unfold fL_law_461 at H
  obtain ⟨u1, e1, H⟩ := bs H
  obtain ⟨p2, e2, H⟩ := bs H
  refine j_cVb (y := yX12_quarrel) (dY := 4) (vs := [vi s3, vi s2, vi s1, vi s0]) (st := [vi s5]) (q := s4) (pc' := 464) dL_law_461 rfl ymX12_quarrel yvX12_quarrel ml_L_48 (by decide) rfl (Nat.le_of_ble_eq_true rfl) (Nat.le_of_ble_eq_true rfl) e1 (tX12_quarrel s4 s3 s2 s1 s0 h rs3 rs2 rs1 rs0 e2) (fun r2 b2 z2 => ?_)
  refine j_icmp_eq (tgt := 1223) (pc' := 467) dL_law_464 (by decide) rfl rs5 r2 (fun c3 => ?_) (fun c3 => ?_)
  · rw [if_pos c3] at H
    exact tL_law_1223 (n := n) hL _ hk18 1000000 x1 x2 x3 p2.2 rx3 H
  · rw [if_neg c3] at H
    refine j_sub (lv' := []) [] rfl ?_
    refine j_rc (rc2 := 0) (rs2 := 0) (by omega) (by omega) ?_
    exact tL_law_467 hL   p2.2  H
noncomputable def fL_law_429 (L : Nat) (xs : Nat → Int32) (k18 : Nat → Nat → Nat → Int → Hp → Option (Int × Hp)) (x0 : Nat) (x1 : Nat) (x2 : Nat) (x3 : Int) (s0 : Int) (s1 : Int) (s2 : Int) (s3 : Int) (s4 : Nat) (h : Hp) : Option (Int × Hp) :=
  (cob h 10 s4).bind fun _ => (crf h 1000000).bind fun _ => (crf h x1).bind fun _ => (crf h x2).bind fun _ => (fX11_quarrel s4 s3 s2 s1 s0 h).bind fun p5 => (ldS L xs (x3 + 1)).bind fun v6 => (ldS L xs (x3 + 2)).bind fun v7 => (ldS L xs (x3 + 3)).bind fun v8 => (ldS L xs (x3 + 4)).bind fun v9 => if v9 = 0 then (fL_law_461 L xs k18 1000000 x1 x2 x3 0 v8 v7 v6 x2 p5.1 p5.2) else (fL_law_461 L xs k18 1000000 x1 x2 x3 1 v8 v7 v6 x2 p5.1 p5.2)
theorem tL_law_429 {L : Nat} {xs : Nat → Int32} {l : Launch} {res : Int × Hp} (hL : L < 2147483648) {n : Nat} (k18 : Nat → Nat → Nat → Int → Hp → Option (Int × Hp)) (hk18 : ∀ (x0 : Nat) (x1 : Nat) (x2 : Nat) (x3 : Int) (h : Hp), R32 x3 → k18 x0 x1 x2 x3 h = some res → J L xs l RL cL_law 4 false 27 (QB res) (8 * n) (515 * n) 18 [(0, vr 1000000), (1, vr x1), (2, vr x2), (3, vi x3)] [] h) (x0 : Nat) (x1 : Nat) (x2 : Nat) (x3 : Int) (s0 : Int) (s1 : Int) (s2 : Int) (s3 : Int) (s4 : Nat) (h : Hp) (rx3 : R32 x3) (rs0 : R32 s0) (rs1 : R32 s1) (rs2 : R32 s2) (rs3 : R32 s3) (H : fL_law_429 L xs k18 x0 x1 x2 x3 s0 s1 s2 s3 s4 h = some res) : J L xs l RL cL_law 4 false 27 (QB res) (8 * n + 8) (515 * n + 515) 429 [(0, vr 1000000), (1, vr x1), (2, vr x2), (3, vi x3)] [vi s0, vi s1, vi s2, vi s3, vr s4] h := by
  unfold fL_law_429 at H
  obtain ⟨u1, e1, H⟩ := bs H
  obtain ⟨u2, e2, H⟩ := bs H
  obtain ⟨u3, e3, H⟩ := bs H
  obtain ⟨u4, e4, H⟩ := bs H
  obtain ⟨p5, e5, H⟩ := bs H
  refine j_aVb (y := yX11_quarrel) (dY := 5) (vs := [vi s3, vi s2, vi s1, vi s0]) (st := []) (q := s4) (mc := 8) (ms := 515) (rc := (8 * n)) (rs := (515 * n)) (pc' := 432) dL_law_429 rfl ymX11_quarrel yvX11_quarrel ml_L_44 (by decide) rfl (Nat.le_of_ble_eq_true rfl) (Nat.le_of_ble_eq_true rfl) e1 trivial ⟨(crf_R e2), (crf_R e3), (crf_R e4), trivial, trivial⟩ (tX11_quarrel s4 s3 s2 s1 s0 h rs3 rs2 rs1 rs0 e5) (fun r5 b5 => ?_)
  refine j_aload_n (i := 2) (pc' := 433) dL_law_432 rfl rfl 2 rfl ?_
  refine j_aload_n (i := 0) (pc' := 434) dL_law_433 rfl rfl 0 rfl ?_
  refine j_iload_n (i := 3) (pc' := 435) dL_law_434 rfl rfl 3 rfl ?_
  refine j_iconst (pc' := 436) dL_law_435 rfl ?_
  refine j_iadd (pc' := 437) dL_law_436 rfl ?_
  obtain ⟨v6, e6, H⟩ := bs H
  refine j_scld hL (pc' := 438) dL_law_437 rfl e6 (fun r6 => ?_)
  refine j_aload_n (i := 0) (pc' := 439) dL_law_438 rfl rfl 0 rfl ?_
  refine j_iload_n (i := 3) (pc' := 440) dL_law_439 rfl rfl 3 rfl ?_
  refine j_iconst (pc' := 441) dL_law_440 rfl ?_
  refine j_iadd (pc' := 442) dL_law_441 rfl ?_
  obtain ⟨v7, e7, H⟩ := bs H
  refine j_scld hL (pc' := 443) dL_law_442 rfl e7 (fun r7 => ?_)
  refine j_aload_n (i := 0) (pc' := 444) dL_law_443 rfl rfl 0 rfl ?_
  refine j_iload_n (i := 3) (pc' := 445) dL_law_444 rfl rfl 3 rfl ?_
  refine j_iconst (pc' := 446) dL_law_445 rfl ?_
  refine j_iadd (pc' := 447) dL_law_446 rfl ?_
  obtain ⟨v8, e8, H⟩ := bs H
  refine j_scld hL (pc' := 448) dL_law_447 rfl e8 (fun r8 => ?_)
  refine j_aload_n (i := 0) (pc' := 449) dL_law_448 rfl rfl 0 rfl ?_
  refine j_iload_n (i := 3) (pc' := 450) dL_law_449 rfl rfl 3 rfl ?_
  refine j_iconst (pc' := 451) dL_law_450 rfl ?_
  refine j_iadd (pc' := 452) dL_law_451 rfl ?_
  obtain ⟨v9, e9, H⟩ := bs H
  refine j_scld hL (pc' := 453) dL_law_452 rfl e9 (fun r9 => ?_)
  refine j_if_eq (tgt := 460) (pc' := 456) dL_law_453 (by decide) rfl r9 (fun c10 => ?_) (fun c10 => ?_)
  · rw [if_pos c10] at H
    refine j_iconst (pc' := 461) dL_law_460 rfl ?_
    exact tL_law_461 (n := n) hL _ hk18 1000000 x1 x2 x3 0 v8 v7 v6 x2 p5.1 p5.2 rx3 ⟨by decide, by decide⟩ r8 r7 r6 r5 H
  · rw [if_neg c10] at H
    refine j_iconst (pc' := 457) dL_law_456 rfl ?_
    refine j_goto (tgt := 461) dL_law_457 (by decide) ?_
    exact tL_law_461 (n := n) hL _ hk18 1000000 x1 x2 x3 1 v8 v7 v6 x2 p5.1 p5.2 rx3 ⟨by decide, by decide⟩ r8 r7 r6 r5 H
noncomputable def fL_law_500 (L : Nat) (xs : Nat → Int32)  (h : Hp) : Option (Int × Hp) :=
  some (0, h)
theorem tL_law_500 {L : Nat} {xs : Nat → Int32} {l : Launch} {res : Int × Hp} (hL : L < 2147483648)  (h : Hp)  (H : fL_law_500 L xs  h = some res) : J L xs l RL cL_law 4 false 27 (QB res) 0 0 500 [] [] h := by
  unfold fL_law_500 at H
  refine j_iconst (pc' := 501) dL_law_500 rfl ?_
  obtain rfl := Option.some.inj H
  exact j_iret dL_law_501 ⟨by decide, by decide⟩ ⟨rfl, rfl, Or.inl rfl⟩
noncomputable def fL_law_523 (L : Nat) (xs : Nat → Int32)  (h : Hp) : Option (Int × Hp) :=
  some (0, h)
theorem tL_law_523 {L : Nat} {xs : Nat → Int32} {l : Launch} {res : Int × Hp} (hL : L < 2147483648)  (h : Hp)  (H : fL_law_523 L xs  h = some res) : J L xs l RL cL_law 4 false 27 (QB res) 0 0 523 [] [] h := by
  unfold fL_law_523 at H
  refine j_iconst (pc' := 524) dL_law_523 rfl ?_
  obtain rfl := Option.some.inj H
  exact j_iret dL_law_524 ⟨by decide, by decide⟩ ⟨rfl, rfl, Or.inl rfl⟩
noncomputable def fL_law_546 (L : Nat) (xs : Nat → Int32)  (h : Hp) : Option (Int × Hp) :=
  some (0, h)
theorem tL_law_546 {L : Nat} {xs : Nat → Int32} {l : Launch} {res : Int × Hp} (hL : L < 2147483648)  (h : Hp)  (H : fL_law_546 L xs  h = some res) : J L xs l RL cL_law 4 false 27 (QB res) 0 0 546 [] [] h := by
  unfold fL_law_546 at H
  refine j_iconst (pc' := 547) dL_law_546 rfl ?_
  obtain rfl := Option.some.inj H
  exact j_iret dL_law_547 ⟨by decide, by decide⟩ ⟨rfl, rfl, Or.inl rfl⟩
noncomputable def fL_law_589 (L : Nat) (xs : Nat → Int32)  (h : Hp) : Option (Int × Hp) :=
  some (0, h)
theorem tL_law_589 {L : Nat} {xs : Nat → Int32} {l : Launch} {res : Int × Hp} (hL : L < 2147483648)  (h : Hp)  (H : fL_law_589 L xs  h = some res) : J L xs l RL cL_law 4 false 27 (QB res) 0 0 589 [] [] h := by
  unfold fL_law_589 at H
  refine j_iconst (pc' := 590) dL_law_589 rfl ?_
  obtain rfl := Option.some.inj H
  exact j_iret dL_law_590 ⟨by decide, by decide⟩ ⟨rfl, rfl, Or.inl rfl⟩
noncomputable def fL_law_613 (L : Nat) (xs : Nat → Int32)  (h : Hp) : Option (Int × Hp) :=
  some (0, h)
theorem tL_law_613 {L : Nat} {xs : Nat → Int32} {l : Launch} {res : Int × Hp} (hL : L < 2147483648)  (h : Hp)  (H : fL_law_613 L xs  h = some res) : J L xs l RL cL_law 4 false 27 (QB res) 0 0 613 [] [] h := by
  unfold fL_law_613 at H
  refine j_iconst (pc' := 614) dL_law_613 rfl ?_
  obtain rfl := Option.some.inj H
  exact j_iret dL_law_614 ⟨by decide, by decide⟩ ⟨rfl, rfl, Or.inl rfl⟩
noncomputable def fL_law_636 (L : Nat) (xs : Nat → Int32)  (h : Hp) : Option (Int × Hp) :=
  some (0, h)
theorem tL_law_636 {L : Nat} {xs : Nat → Int32} {l : Launch} {res : Int × Hp} (hL : L < 2147483648)  (h : Hp)  (H : fL_law_636 L xs  h = some res) : J L xs l RL cL_law 4 false 27 (QB res) 0 0 636 [] [] h := by
  unfold fL_law_636 at H
  refine j_iconst (pc' := 637) dL_law_636 rfl ?_
  obtain rfl := Option.some.inj H
  exact j_iret dL_law_637 ⟨by decide, by decide⟩ ⟨rfl, rfl, Or.inl rfl⟩
noncomputable def fL_law_670 (L : Nat) (xs : Nat → Int32)  (h : Hp) : Option (Int × Hp) :=
  some (0, h)
theorem tL_law_670 {L : Nat} {xs : Nat → Int32} {l : Launch} {res : Int × Hp} (hL : L < 2147483648)  (h : Hp)  (H : fL_law_670 L xs  h = some res) : J L xs l RL cL_law 4 false 27 (QB res) 0 0 670 [] [] h := by
  unfold fL_law_670 at H
  refine j_iconst (pc' := 671) dL_law_670 rfl ?_
  obtain rfl := Option.some.inj H
  exact j_iret dL_law_671 ⟨by decide, by decide⟩ ⟨rfl, rfl, Or.inl rfl⟩
noncomputable def fL_law_704 (L : Nat) (xs : Nat → Int32)  (h : Hp) : Option (Int × Hp) :=
  some (0, h)
theorem tL_law_704 {L : Nat} {xs : Nat → Int32} {l : Launch} {res : Int × Hp} (hL : L < 2147483648)  (h : Hp)  (H : fL_law_704 L xs  h = some res) : J L xs l RL cL_law 4 false 27 (QB res) 0 0 704 [] [] h := by
  unfold fL_law_704 at H
  refine j_iconst (pc' := 705) dL_law_704 rfl ?_
  obtain rfl := Option.some.inj H
  exact j_iret dL_law_705 ⟨by decide, by decide⟩ ⟨rfl, rfl, Or.inl rfl⟩
noncomputable def fL_law_727 (L : Nat) (xs : Nat → Int32)  (h : Hp) : Option (Int × Hp) :=
  some (0, h)
theorem tL_law_727 {L : Nat} {xs : Nat → Int32} {l : Launch} {res : Int × Hp} (hL : L < 2147483648)  (h : Hp)  (H : fL_law_727 L xs  h = some res) : J L xs l RL cL_law 4 false 27 (QB res) 0 0 727 [] [] h := by
  unfold fL_law_727 at H
  refine j_iconst (pc' := 728) dL_law_727 rfl ?_
  obtain rfl := Option.some.inj H
  exact j_iret dL_law_728 ⟨by decide, by decide⟩ ⟨rfl, rfl, Or.inl rfl⟩
noncomputable def fL_law_740 (L : Nat) (xs : Nat → Int32)  (h : Hp) : Option (Int × Hp) :=
  some (0, h)
theorem tL_law_740 {L : Nat} {xs : Nat → Int32} {l : Launch} {res : Int × Hp} (hL : L < 2147483648)  (h : Hp)  (H : fL_law_740 L xs  h = some res) : J L xs l RL cL_law 4 false 27 (QB res) 0 0 740 [] [] h := by
  unfold fL_law_740 at H
  refine j_iconst (pc' := 741) dL_law_740 rfl ?_
  obtain rfl := Option.some.inj H
  exact j_iret dL_law_741 ⟨by decide, by decide⟩ ⟨rfl, rfl, Or.inl rfl⟩
noncomputable def fL_law_763 (L : Nat) (xs : Nat → Int32)  (h : Hp) : Option (Int × Hp) :=
  some (0, h)
theorem tL_law_763 {L : Nat} {xs : Nat → Int32} {l : Launch} {res : Int × Hp} (hL : L < 2147483648)  (h : Hp)  (H : fL_law_763 L xs  h = some res) : J L xs l RL cL_law 4 false 27 (QB res) 0 0 763 [] [] h := by
  unfold fL_law_763 at H
  refine j_iconst (pc' := 764) dL_law_763 rfl ?_
  obtain rfl := Option.some.inj H
  exact j_iret dL_law_764 ⟨by decide, by decide⟩ ⟨rfl, rfl, Or.inl rfl⟩
noncomputable def fL_law_787 (L : Nat) (xs : Nat → Int32)  (h : Hp) : Option (Int × Hp) :=
  some (0, h)
theorem tL_law_787 {L : Nat} {xs : Nat → Int32} {l : Launch} {res : Int × Hp} (hL : L < 2147483648)  (h : Hp)  (H : fL_law_787 L xs  h = some res) : J L xs l RL cL_law 4 false 27 (QB res) 0 0 787 [] [] h := by
  unfold fL_law_787 at H
  refine j_iconst (pc' := 788) dL_law_787 rfl ?_
  obtain rfl := Option.some.inj H
  exact j_iret dL_law_788 ⟨by decide, by decide⟩ ⟨rfl, rfl, Or.inl rfl⟩
noncomputable def fL_law_801 (L : Nat) (xs : Nat → Int32)  (h : Hp) : Option (Int × Hp) :=
  some (0, h)
theorem tL_law_801 {L : Nat} {xs : Nat → Int32} {l : Launch} {res : Int × Hp} (hL : L < 2147483648)  (h : Hp)  (H : fL_law_801 L xs  h = some res) : J L xs l RL cL_law 4 false 27 (QB res) 0 0 801 [] [] h := by
  unfold fL_law_801 at H
  refine j_iconst (pc' := 802) dL_law_801 rfl ?_
  obtain rfl := Option.some.inj H
  exact j_iret dL_law_802 ⟨by decide, by decide⟩ ⟨rfl, rfl, Or.inl rfl⟩
noncomputable def fL_law_814 (L : Nat) (xs : Nat → Int32)  (h : Hp) : Option (Int × Hp) :=
  some (0, h)
theorem tL_law_814 {L : Nat} {xs : Nat → Int32} {l : Launch} {res : Int × Hp} (hL : L < 2147483648)  (h : Hp)  (H : fL_law_814 L xs  h = some res) : J L xs l RL cL_law 4 false 27 (QB res) 0 0 814 [] [] h := by
  unfold fL_law_814 at H
  refine j_iconst (pc' := 815) dL_law_814 rfl ?_
  obtain rfl := Option.some.inj H
  exact j_iret dL_law_815 ⟨by decide, by decide⟩ ⟨rfl, rfl, Or.inl rfl⟩
noncomputable def fL_law_837 (L : Nat) (xs : Nat → Int32)  (h : Hp) : Option (Int × Hp) :=
  some (0, h)
theorem tL_law_837 {L : Nat} {xs : Nat → Int32} {l : Launch} {res : Int × Hp} (hL : L < 2147483648)  (h : Hp)  (H : fL_law_837 L xs  h = some res) : J L xs l RL cL_law 4 false 27 (QB res) 0 0 837 [] [] h := by
  unfold fL_law_837 at H
  refine j_iconst (pc' := 838) dL_law_837 rfl ?_
  obtain rfl := Option.some.inj H
  exact j_iret dL_law_838 ⟨by decide, by decide⟩ ⟨rfl, rfl, Or.inl rfl⟩
noncomputable def fL_law_870 (L : Nat) (xs : Nat → Int32)  (h : Hp) : Option (Int × Hp) :=
  some (0, h)
theorem tL_law_870 {L : Nat} {xs : Nat → Int32} {l : Launch} {res : Int × Hp} (hL : L < 2147483648)  (h : Hp)  (H : fL_law_870 L xs  h = some res) : J L xs l RL cL_law 4 false 27 (QB res) 0 0 870 [] [] h := by
  unfold fL_law_870 at H
  refine j_iconst (pc' := 871) dL_law_870 rfl ?_
  obtain rfl := Option.some.inj H
  exact j_iret dL_law_871 ⟨by decide, by decide⟩ ⟨rfl, rfl, Or.inl rfl⟩
noncomputable def fL_law_903 (L : Nat) (xs : Nat → Int32)  (h : Hp) : Option (Int × Hp) :=
  some (0, h)
theorem tL_law_903 {L : Nat} {xs : Nat → Int32} {l : Launch} {res : Int × Hp} (hL : L < 2147483648)  (h : Hp)  (H : fL_law_903 L xs  h = some res) : J L xs l RL cL_law 4 false 27 (QB res) 0 0 903 [] [] h := by
  unfold fL_law_903 at H
  refine j_iconst (pc' := 904) dL_law_903 rfl ?_
  obtain rfl := Option.some.inj H
  exact j_iret dL_law_904 ⟨by decide, by decide⟩ ⟨rfl, rfl, Or.inl rfl⟩
noncomputable def fL_law_926 (L : Nat) (xs : Nat → Int32)  (h : Hp) : Option (Int × Hp) :=
  some (0, h)
theorem tL_law_926 {L : Nat} {xs : Nat → Int32} {l : Launch} {res : Int × Hp} (hL : L < 2147483648)  (h : Hp)  (H : fL_law_926 L xs  h = some res) : J L xs l RL cL_law 4 false 27 (QB res) 0 0 926 [] [] h := by
  unfold fL_law_926 at H
  refine j_iconst (pc' := 927) dL_law_926 rfl ?_
  obtain rfl := Option.some.inj H
  exact j_iret dL_law_927 ⟨by decide, by decide⟩ ⟨rfl, rfl, Or.inl rfl⟩
noncomputable def fL_law_960 (L : Nat) (xs : Nat → Int32)  (h : Hp) : Option (Int × Hp) :=
  some (0, h)
theorem tL_law_960 {L : Nat} {xs : Nat → Int32} {l : Launch} {res : Int × Hp} (hL : L < 2147483648)  (h : Hp)  (H : fL_law_960 L xs  h = some res) : J L xs l RL cL_law 4 false 27 (QB res) 0 0 960 [] [] h := by
  unfold fL_law_960 at H
  refine j_iconst (pc' := 961) dL_law_960 rfl ?_
  obtain rfl := Option.some.inj H
  exact j_iret dL_law_961 ⟨by decide, by decide⟩ ⟨rfl, rfl, Or.inl rfl⟩
noncomputable def fL_law_974 (L : Nat) (xs : Nat → Int32)  (h : Hp) : Option (Int × Hp) :=
  some (0, h)
theorem tL_law_974 {L : Nat} {xs : Nat → Int32} {l : Launch} {res : Int × Hp} (hL : L < 2147483648)  (h : Hp)  (H : fL_law_974 L xs  h = some res) : J L xs l RL cL_law 4 false 27 (QB res) 0 0 974 [] [] h := by
  unfold fL_law_974 at H
  refine j_iconst (pc' := 975) dL_law_974 rfl ?_
  obtain rfl := Option.some.inj H
  exact j_iret dL_law_975 ⟨by decide, by decide⟩ ⟨rfl, rfl, Or.inl rfl⟩
noncomputable def fL_law_1027 (L : Nat) (xs : Nat → Int32)  (h : Hp) : Option (Int × Hp) :=
  some (0, h)
theorem tL_law_1027 {L : Nat} {xs : Nat → Int32} {l : Launch} {res : Int × Hp} (hL : L < 2147483648)  (h : Hp)  (H : fL_law_1027 L xs  h = some res) : J L xs l RL cL_law 4 false 27 (QB res) 0 0 1027 [] [] h := by
  unfold fL_law_1027 at H
  refine j_iconst (pc' := 1028) dL_law_1027 rfl ?_
  obtain rfl := Option.some.inj H
  exact j_iret dL_law_1028 ⟨by decide, by decide⟩ ⟨rfl, rfl, Or.inl rfl⟩
noncomputable def fL_law_1050 (L : Nat) (xs : Nat → Int32)  (h : Hp) : Option (Int × Hp) :=
  some (0, h)
theorem tL_law_1050 {L : Nat} {xs : Nat → Int32} {l : Launch} {res : Int × Hp} (hL : L < 2147483648)  (h : Hp)  (H : fL_law_1050 L xs  h = some res) : J L xs l RL cL_law 4 false 27 (QB res) 0 0 1050 [] [] h := by
  unfold fL_law_1050 at H
  refine j_iconst (pc' := 1051) dL_law_1050 rfl ?_
  obtain rfl := Option.some.inj H
  exact j_iret dL_law_1051 ⟨by decide, by decide⟩ ⟨rfl, rfl, Or.inl rfl⟩
noncomputable def fL_law_1073 (L : Nat) (xs : Nat → Int32)  (h : Hp) : Option (Int × Hp) :=
  some (0, h)
theorem tL_law_1073 {L : Nat} {xs : Nat → Int32} {l : Launch} {res : Int × Hp} (hL : L < 2147483648)  (h : Hp)  (H : fL_law_1073 L xs  h = some res) : J L xs l RL cL_law 4 false 27 (QB res) 0 0 1073 [] [] h := by
  unfold fL_law_1073 at H
  refine j_iconst (pc' := 1074) dL_law_1073 rfl ?_
  obtain rfl := Option.some.inj H
  exact j_iret dL_law_1074 ⟨by decide, by decide⟩ ⟨rfl, rfl, Or.inl rfl⟩
noncomputable def fL_law_1096 (L : Nat) (xs : Nat → Int32)  (h : Hp) : Option (Int × Hp) :=
  some (0, h)
theorem tL_law_1096 {L : Nat} {xs : Nat → Int32} {l : Launch} {res : Int × Hp} (hL : L < 2147483648)  (h : Hp)  (H : fL_law_1096 L xs  h = some res) : J L xs l RL cL_law 4 false 27 (QB res) 0 0 1096 [] [] h := by
  unfold fL_law_1096 at H
  refine j_iconst (pc' := 1097) dL_law_1096 rfl ?_
  obtain rfl := Option.some.inj H
  exact j_iret dL_law_1097 ⟨by decide, by decide⟩ ⟨rfl, rfl, Or.inl rfl⟩
noncomputable def fL_law_1119 (L : Nat) (xs : Nat → Int32)  (h : Hp) : Option (Int × Hp) :=
  some (0, h)
theorem tL_law_1119 {L : Nat} {xs : Nat → Int32} {l : Launch} {res : Int × Hp} (hL : L < 2147483648)  (h : Hp)  (H : fL_law_1119 L xs  h = some res) : J L xs l RL cL_law 4 false 27 (QB res) 0 0 1119 [] [] h := by
  unfold fL_law_1119 at H
  refine j_iconst (pc' := 1120) dL_law_1119 rfl ?_
  obtain rfl := Option.some.inj H
  exact j_iret dL_law_1120 ⟨by decide, by decide⟩ ⟨rfl, rfl, Or.inl rfl⟩
noncomputable def fL_law_1182 (L : Nat) (xs : Nat → Int32)  (h : Hp) : Option (Int × Hp) :=
  some (0, h)
theorem tL_law_1182 {L : Nat} {xs : Nat → Int32} {l : Launch} {res : Int × Hp} (hL : L < 2147483648)  (h : Hp)  (H : fL_law_1182 L xs  h = some res) : J L xs l RL cL_law 4 false 27 (QB res) 0 0 1182 [] [] h := by
  unfold fL_law_1182 at H
  refine j_iconst (pc' := 1183) dL_law_1182 rfl ?_
  obtain rfl := Option.some.inj H
  exact j_iret dL_law_1183 ⟨by decide, by decide⟩ ⟨rfl, rfl, Or.inl rfl⟩
noncomputable def fL_law_1195 (L : Nat) (xs : Nat → Int32)  (h : Hp) : Option (Int × Hp) :=
  some (0, h)
theorem tL_law_1195 {L : Nat} {xs : Nat → Int32} {l : Launch} {res : Int × Hp} (hL : L < 2147483648)  (h : Hp)  (H : fL_law_1195 L xs  h = some res) : J L xs l RL cL_law 4 false 27 (QB res) 0 0 1195 [] [] h := by
  unfold fL_law_1195 at H
  refine j_iconst (pc' := 1196) dL_law_1195 rfl ?_
  obtain rfl := Option.some.inj H
  exact j_iret dL_law_1196 ⟨by decide, by decide⟩ ⟨rfl, rfl, Or.inl rfl⟩
noncomputable def fL_law_1208 (L : Nat) (xs : Nat → Int32)  (h : Hp) : Option (Int × Hp) :=
  some (0, h)
theorem tL_law_1208 {L : Nat} {xs : Nat → Int32} {l : Launch} {res : Int × Hp} (hL : L < 2147483648)  (h : Hp)  (H : fL_law_1208 L xs  h = some res) : J L xs l RL cL_law 4 false 27 (QB res) 0 0 1208 [] [] h := by
  unfold fL_law_1208 at H
  refine j_iconst (pc' := 1209) dL_law_1208 rfl ?_
  obtain rfl := Option.some.inj H
  exact j_iret dL_law_1209 ⟨by decide, by decide⟩ ⟨rfl, rfl, Or.inl rfl⟩
noncomputable def fL_law_1221 (L : Nat) (xs : Nat → Int32)  (h : Hp) : Option (Int × Hp) :=
  some (0, h)
theorem tL_law_1221 {L : Nat} {xs : Nat → Int32} {l : Launch} {res : Int × Hp} (hL : L < 2147483648)  (h : Hp)  (H : fL_law_1221 L xs  h = some res) : J L xs l RL cL_law 4 false 27 (QB res) 0 0 1221 [] [] h := by
  unfold fL_law_1221 at H
  refine j_iconst (pc' := 1222) dL_law_1221 rfl ?_
  obtain rfl := Option.some.inj H
  exact j_iret dL_law_1222 ⟨by decide, by decide⟩ ⟨rfl, rfl, Or.inl rfl⟩
noncomputable def fL_law_18 (L : Nat) (xs : Nat → Int32) : Nat → Nat → Nat → Nat → Int → Hp → Option (Int × Hp)
  | 0, _, _, _, _, _ => none
  | n + 1, x0, x1, x2, x3, h => (c32 ((L : Int) - 5)).bind fun _ => if ((L : Int) - 5) < x3 then (fL_law_1229 L xs h) else ((ldS L xs x3).bind fun v4 => if (bAnd v4 63) = 0 then ((ldS L xs (x3 + 1)).bind fun v6 => (cob h 10 x1).bind fun _ => (crf h 1000000).bind fun _ => (crf h x1).bind fun _ => (crf h x2).bind fun _ => (fX11_things x1 v6 h).bind fun p11 => (ldS L xs (x3 + 1)).bind fun v12 => (cob p11.2 11 x2).bind fun _ => (fX12_things x2 v12 p11.2).bind fun p14 => if p11.1 = p14.1 then (fL_law_1223 L xs (fL_law_18 L xs n) 1000000 x1 x2 x3 p14.2) else (fL_law_213 L xs p14.2)) else if (bAnd v4 63) = 1 then ((ldS L xs (x3 + 1)).bind fun v17 => (ldS L xs (x3 + 2)).bind fun v18 => (ldS L xs (x3 + 3)).bind fun v19 => (cob h 10 x1).bind fun _ => (crf h 1000000).bind fun _ => (crf h x1).bind fun _ => (crf h x2).bind fun _ => (fX11_way x1 v17 v18 v19 h).bind fun p24 => (ldS L xs (x3 + 1)).bind fun v25 => (ldS L xs (x3 + 2)).bind fun v26 => (ldS L xs (x3 + 3)).bind fun v27 => (cob p24.2 11 x2).bind fun _ => (fX12_way x2 v25 v26 v27 p24.2).bind fun p29 => if p24.1 = p29.1 then (fL_law_1223 L xs (fL_law_18 L xs n) 1000000 x1 x2 x3 p29.2) else (fL_law_256 L xs p29.2)) else if (bAnd v4 63) = 2 then ((ldS L xs (x3 + 1)).bind fun v32 => (ldS L xs (x3 + 2)).bind fun v33 => (cob h 10 x1).bind fun _ => (fX11_sheet x1 v32 v33 h).bind fun p35 => (ldS L xs (x3 + 1)).bind fun v36 => (ldS L xs (x3 + 2)).bind fun v37 => (cob p35.2 11 x2).bind fun _ => (fX12_sheet x2 v36 v37 p35.2).bind fun p39 => if p35.1 = p39.1 then (fL_law_1223 L xs (fL_law_18 L xs n) 1000000 x1 x2 x3 p39.2) else (fL_law_289 L xs p39.2)) else if (bAnd v4 63) = 3 then ((ldS L xs (x3 + 1)).bind fun v42 => (ldS L xs (x3 + 2)).bind fun v43 => (ldS L xs (x3 + 3)).bind fun v44 => (cob h 10 x1).bind fun _ => (fX11_entry x1 v42 (lOr (lShl v43 32) (lAnd v44 4294967295)) h).bind fun p46 => (ldS L xs (x3 + 1)).bind fun v47 => (ldS L xs (x3 + 2)).bind fun v48 => (ldS L xs (x3 + 3)).bind fun v49 => (cob p46.2 11 x2).bind fun _ => (fX12_entry x2 v47 (lOr (lShl v48 32) (lAnd v49 4294967295)) p46.2).bind fun p51 => if p46.1 = p51.1 then (fL_law_1223 L xs (fL_law_18 L xs n) 1000000 x1 x2 x3 p51.2) else (fL_law_352 L xs p51.2)) else if (bAnd v4 63) = 4 then ((ldS L xs (x3 + 1)).bind fun v54 => (cob h 10 x1).bind fun _ => (crf h 1000000).bind fun _ => (crf h x1).bind fun _ => (crf h x2).bind fun _ => (fX11_lay x1 v54 h).bind fun p59 => (ldS L xs (x3 + 1)).bind fun v60 => (cob p59.2 11 x2).bind fun _ => (fX12_lay x2 v60 p59.2).bind fun p62 => if p59.1 = p62.1 then (fL_law_1223 L xs (fL_law_18 L xs n) 1000000 x1 x2 x3 p62.2) else (fL_law_375 L xs p62.2)) else if (bAnd v4 63) = 5 then ((ldS L xs (x3 + 1)).bind fun v65 => (cob h 10 x1).bind fun _ => (crf h 1000000).bind fun _ => (crf h x1).bind fun _ => (crf h x2).bind fun _ => (fX11_measure x1 v65 h).bind fun p70 => (ldS L xs (x3 + 1)).bind fun v71 => (cob p70.2 11 x2).bind fun _ => (fX12_measure x2 v71 p70.2).bind fun p73 => if p70.1 = p73.1 then (fL_law_1223 L xs (fL_law_18 L xs n) 1000000 x1 x2 x3 p73.2) else (fL_law_398 L xs p73.2)) else if (bAnd v4 63) = 6 then ((ldS L xs (x3 + 1)).bind fun v76 => (ldS L xs (x3 + 2)).bind fun v77 => (ldS L xs (x3 + 3)).bind fun v78 => (ldS L xs (x3 + 4)).bind fun v79 => if v79 = 0 then (fL_law_429 L xs (fL_law_18 L xs n) 1000000 x1 x2 x3 0 v78 v77 v76 x1 h) else (fL_law_429 L xs (fL_law_18 L xs n) 1000000 x1 x2 x3 1 v78 v77 v76 x1 h)) else if (bAnd v4 63) = 7 then ((ldS L xs (x3 + 1)).bind fun v82 => (ldS L xs (x3 + 2)).bind fun v83 => (cob h 10 x1).bind fun _ => (crf h 1000000).bind fun _ => (crf h x1).bind fun _ => (crf h x2).bind fun _ => (fX11_put x1 v82 v83 h).bind fun p88 => (ldS L xs (x3 + 1)).bind fun v89 => (ldS L xs (x3 + 2)).bind fun v90 => (cob p88.2 11 x2).bind fun _ => (fX12_put x2 v89 v90 p88.2).bind fun p92 => if p88.1 = p92.1 then (fL_law_1223 L xs (fL_law_18 L xs n) 1000000 x1 x2 x3 p92.2) else (fL_law_500 L xs p92.2)) else if (bAnd v4 63) = 8 then ((ldS L xs (x3 + 1)).bind fun v95 => (cob h 10 x1).bind fun _ => (fX11_count x1 v95 h).bind fun p97 => (ldS L xs (x3 + 1)).bind fun v98 => (cob p97.2 11 x2).bind fun _ => (fX12_count x2 v98 p97.2).bind fun p100 => if p97.1 = p100.1 then (fL_law_1223 L xs (fL_law_18 L xs n) 1000000 x1 x2 x3 p100.2) else (fL_law_523 L xs p100.2)) else if (bAnd v4 63) = 9 then ((ldS L xs (x3 + 1)).bind fun v103 => (cob h 10 x1).bind fun _ => (fX11_heap x1 v103 h).bind fun p105 => (ldS L xs (x3 + 1)).bind fun v106 => (cob p105.2 11 x2).bind fun _ => (fX12_heap x2 v106 p105.2).bind fun p108 => if p105.1 = p108.1 then (fL_law_1223 L xs (fL_law_18 L xs n) 1000000 x1 x2 x3 p108.2) else (fL_law_546 L xs p108.2)) else if (bAnd v4 63) = 10 then ((ldS L xs (x3 + 1)).bind fun v111 => (ldS L xs (x3 + 2)).bind fun v112 => (ldS L xs (x3 + 3)).bind fun v113 => (cob h 10 x1).bind fun _ => (fX11_pair x1 v111 v112 v113 h).bind fun p115 => (ldS L xs (x3 + 1)).bind fun v116 => (ldS L xs (x3 + 2)).bind fun v117 => (ldS L xs (x3 + 3)).bind fun v118 => (cob p115.2 11 x2).bind fun _ => (fX12_pair x2 v116 v117 v118 p115.2).bind fun p120 => if p115.1 = p120.1 then (fL_law_1223 L xs (fL_law_18 L xs n) 1000000 x1 x2 x3 p120.2) else (fL_law_589 L xs p120.2)) else if (bAnd v4 63) = 11 then ((ldS L xs (x3 + 1)).bind fun v123 => (cob h 10 x1).bind fun _ => (fX11_cost x1 v123 h).bind fun p125 => (ldS L xs (x3 + 1)).bind fun v126 => (cob p125.2 11 x2).bind fun _ => (fX12_cost x2 v126 p125.2).bind fun p128 => if (lCmp p125.1 p128.1) = 0 then (fL_law_1223 L xs (fL_law_18 L xs n) 1000000 x1 x2 x3 p128.2) else (fL_law_613 L xs p128.2)) else if (bAnd v4 63) = 12 then ((ldS L xs (x3 + 1)).bind fun v131 => (cob h 10 x1).bind fun _ => (fX11_middle x1 v131 h).bind fun p133 => (ldS L xs (x3 + 1)).bind fun v134 => (cob p133.2 11 x2).bind fun _ => (fX12_middle x2 v134 p133.2).bind fun p136 => if p133.1 = p136.1 then (fL_law_1223 L xs (fL_law_18 L xs n) 1000000 x1 x2 x3 p136.2) else (fL_law_636 L xs p136.2)) else if (bAnd v4 63) = 13 then ((ldS L xs (x3 + 1)).bind fun v139 => (ldS L xs (x3 + 2)).bind fun v140 => (cob h 10 x1).bind fun _ => (crf h 1000000).bind fun _ => (crf h x1).bind fun _ => (crf h x2).bind fun _ => (fX11_best x1 v139 v140 h).bind fun p145 => (ldS L xs (x3 + 1)).bind fun v146 => (ldS L xs (x3 + 2)).bind fun v147 => (cob p145.2 11 x2).bind fun _ => (fX12_best x2 v146 v147 p145.2).bind fun p149 => if (lCmp p145.1 p149.1) = 0 then (fL_law_1223 L xs (fL_law_18 L xs n) 1000000 x1 x2 x3 p149.2) else (fL_law_670 L xs p149.2)) else if (bAnd v4 63) = 14 then ((ldS L xs (x3 + 1)).bind fun v152 => (ldS L xs (x3 + 2)).bind fun v153 => (cob h 10 x1).bind fun _ => (crf h 1000000).bind fun _ => (crf h x1).bind fun _ => (crf h x2).bind fun _ => (fX11_line x1 v152 v153 h).bind fun p158 => (ldS L xs (x3 + 1)).bind fun v159 => (ldS L xs (x3 + 2)).bind fun v160 => (cob p158.2 11 x2).bind fun _ => (fX12_line x2 v159 v160 p158.2).bind fun p162 => if (lCmp p158.1 p162.1) = 0 then (fL_law_1223 L xs (fL_law_18 L xs n) 1000000 x1 x2 x3 p162.2) else (fL_law_704 L xs p162.2)) else if (bAnd v4 63) = 15 then ((ldS L xs (x3 + 1)).bind fun v165 => (cob h 10 x1).bind fun _ => (crf h 1000000).bind fun _ => (crf h x1).bind fun _ => (crf h x2).bind fun _ => (fX11_better x1 v165 h).bind fun p170 => (ldS L xs (x3 + 1)).bind fun v171 => (cob p170.2 11 x2).bind fun _ => (fX12_better x2 v171 p170.2).bind fun p173 => if p170.1 = p173.1 then (fL_law_1223 L xs (fL_law_18 L xs n) 1000000 x1 x2 x3 p173.2) else (fL_law_727 L xs p173.2)) else if (bAnd v4 63) = 16 then ((cob h 10 x1).bind fun _ => (crf h 1000000).bind fun _ => (crf h x1).bind fun _ => (crf h x2).bind fun _ => (fX11_two x1 h).bind fun p180 => (cob p180.2 11 x2).bind fun _ => (fX12_two x2 p180.2).bind fun p182 => if p180.1 = p182.1 then (fL_law_1223 L xs (fL_law_18 L xs n) 1000000 x1 x2 x3 p182.2) else (fL_law_740 L xs p182.2)) else if (bAnd v4 63) = 17 then ((ldS L xs (x3 + 1)).bind fun v185 => (cob h 10 x1).bind fun _ => (crf h 1000000).bind fun _ => (crf h x1).bind fun _ => (crf h x2).bind fun _ => (fX11_centres x1 v185 h).bind fun p190 => (ldS L xs (x3 + 1)).bind fun v191 => (cob p190.2 11 x2).bind fun _ => (fX12_centres x2 v191 p190.2).bind fun p193 => if p190.1 = p193.1 then (fL_law_1223 L xs (fL_law_18 L xs n) 1000000 x1 x2 x3 p193.2) else (fL_law_763 L xs p193.2)) else if (bAnd v4 63) = 18 then ((ldS L xs (x3 + 1)).bind fun v196 => (cob h 10 x1).bind fun _ => (crf h 1000000).bind fun _ => (crf h x1).bind fun _ => (crf h x2).bind fun _ => (fX11_third x1 v196 h).bind fun p201 => (ldS L xs (x3 + 1)).bind fun v202 => (cob p201.2 11 x2).bind fun _ => (fX12_third x2 v202 p201.2).bind fun p204 => if (lCmp p201.1 p204.1) = 0 then (fL_law_1223 L xs (fL_law_18 L xs n) 1000000 x1 x2 x3 p204.2) else (fL_law_787 L xs p204.2)) else if (bAnd v4 63) = 19 then ((cob h 10 x1).bind fun _ => (fX11_thirds x1 h).bind fun p208 => (cob p208.2 11 x2).bind fun _ => (fX12_thirds x2 p208.2).bind fun p210 => if (lCmp p208.1 p210.1) = 0 then (fL_law_1223 L xs (fL_law_18 L xs n) 1000000 x1 x2 x3 p210.2) else (fL_law_801 L xs p210.2)) else if (bAnd v4 63) = 20 then ((cob h 10 x1).bind fun _ => (fX11_rounds x1 h).bind fun p214 => (cob p214.2 11 x2).bind fun _ => (fX12_rounds x2 p214.2).bind fun p216 => if p214.1 = p216.1 then (fL_law_1223 L xs (fL_law_18 L xs n) 1000000 x1 x2 x3 p216.2) else (fL_law_814 L xs p216.2)) else if (bAnd v4 63) = 21 then ((ldS L xs (x3 + 1)).bind fun v219 => (cob h 10 x1).bind fun _ => (fX11_tree x1 v219 h).bind fun p221 => (ldS L xs (x3 + 1)).bind fun v222 => (cob p221.2 11 x2).bind fun _ => (fX12_tree x2 v222 p221.2).bind fun p224 => if p221.1 = p224.1 then (fL_law_1223 L xs (fL_law_18 L xs n) 1000000 x1 x2 x3 p224.2) else (fL_law_837 L xs p224.2)) else if (bAnd v4 63) = 22 then ((ldS L xs (x3 + 1)).bind fun v227 => (ldS L xs (x3 + 2)).bind fun v228 => (cob h 10 x1).bind fun _ => (fX11_joined x1 v227 v228 h).bind fun p230 => (ldS L xs (x3 + 1)).bind fun v231 => (ldS L xs (x3 + 2)).bind fun v232 => (cob p230.2 11 x2).bind fun _ => (fX12_joined x2 v231 v232 p230.2).bind fun p234 => if p230.1 = p234.1 then (fL_law_1223 L xs (fL_law_18 L xs n) 1000000 x1 x2 x3 p234.2) else (fL_law_870 L xs p234.2)) else if (bAnd v4 63) = 23 then ((ldS L xs (x3 + 1)).bind fun v237 => (ldS L xs (x3 + 2)).bind fun v238 => (cob h 10 x1).bind fun _ => (fX11_height x1 v237 v238 h).bind fun p240 => (ldS L xs (x3 + 1)).bind fun v241 => (ldS L xs (x3 + 2)).bind fun v242 => (cob p240.2 11 x2).bind fun _ => (fX12_height x2 v241 v242 p240.2).bind fun p244 => if p240.1 = p244.1 then (fL_law_1223 L xs (fL_law_18 L xs n) 1000000 x1 x2 x3 p244.2) else (fL_law_903 L xs p244.2)) else if (bAnd v4 63) = 24 then ((ldS L xs (x3 + 1)).bind fun v247 => (cob h 10 x1).bind fun _ => (crf h 1000000).bind fun _ => (crf h x1).bind fun _ => (crf h x2).bind fun _ => (fX11_cut x1 v247 h).bind fun p252 => (ldS L xs (x3 + 1)).bind fun v253 => (cob p252.2 11 x2).bind fun _ => (fX12_cut x2 v253 p252.2).bind fun p255 => if p252.1 = p255.1 then (fL_law_1223 L xs (fL_law_18 L xs n) 1000000 x1 x2 x3 p255.2) else (fL_law_926 L xs p255.2)) else if (bAnd v4 63) = 25 then ((ldS L xs (x3 + 1)).bind fun v258 => (ldS L xs (x3 + 2)).bind fun v259 => (cob h 10 x1).bind fun _ => (fX11_many x1 v258 v259 h).bind fun p261 => (ldS L xs (x3 + 1)).bind fun v262 => (ldS L xs (x3 + 2)).bind fun v263 => (cob p261.2 11 x2).bind fun _ => (fX12_many x2 v262 v263 p261.2).bind fun p265 => if (lCmp p261.1 p265.1) = 0 then (fL_law_1223 L xs (fL_law_18 L xs n) 1000000 x1 x2 x3 p265.2) else (fL_law_960 L xs p265.2)) else if (bAnd v4 63) = 26 then ((cob h 10 x1).bind fun _ => (fX11_rank x1 h).bind fun p269 => (cob p269.2 11 x2).bind fun _ => (fX12_rank x2 p269.2).bind fun p271 => if (lCmp p269.1 p271.1) = 0 then (fL_law_1223 L xs (fL_law_18 L xs n) 1000000 x1 x2 x3 p271.2) else (fL_law_974 L xs p271.2)) else if (bAnd v4 63) = 27 then ((ldS L xs (x3 + 1)).bind fun v274 => (ldS L xs (x3 + 2)).bind fun v275 => (cob h 10 x1).bind fun _ => (crf h 1000000).bind fun _ => (crf h x1).bind fun _ => (crf h x2).bind fun _ => (fX11_of x1 (lOr (lShl v274 32) (lAnd v275 4294967295)) h).bind fun p280 => (ldS L xs (x3 + 1)).bind fun v281 => (ldS L xs (x3 + 2)).bind fun v282 => (cob p280.2 11 x2).bind fun _ => (fX12_of x2 (lOr (lShl v281 32) (lAnd v282 4294967295)) p280.2).bind fun p284 => if p280.1 = p284.1 then (fL_law_1223 L xs (fL_law_18 L xs n) 1000000 x1 x2 x3 p284.2) else (fL_law_1027 L xs p284.2)) else if (bAnd v4 63) = 28 then ((ldS L xs (x3 + 1)).bind fun v287 => (cob h 10 x1).bind fun _ => (fX11_keep x1 v287 h).bind fun p289 => (ldS L xs (x3 + 1)).bind fun v290 => (cob p289.2 11 x2).bind fun _ => (fX12_keep x2 v290 p289.2).bind fun p292 => if p289.1 = p292.1 then (fL_law_1223 L xs (fL_law_18 L xs n) 1000000 x1 x2 x3 p292.2) else (fL_law_1050 L xs p292.2)) else if (bAnd v4 63) = 29 then ((ldS L xs (x3 + 1)).bind fun v295 => (cob h 10 x1).bind fun _ => (fX11_differ x1 v295 h).bind fun p297 => (ldS L xs (x3 + 1)).bind fun v298 => (cob p297.2 11 x2).bind fun _ => (fX12_differ x2 v298 p297.2).bind fun p300 => if p297.1 = p300.1 then (fL_law_1223 L xs (fL_law_18 L xs n) 1000000 x1 x2 x3 p300.2) else (fL_law_1073 L xs p300.2)) else if (bAnd v4 63) = 30 then ((ldS L xs (x3 + 1)).bind fun v303 => (cob h 10 x1).bind fun _ => (crf h 1000000).bind fun _ => (crf h x1).bind fun _ => (crf h x2).bind fun _ => (fX11_both x1 v303 h).bind fun p308 => (ldS L xs (x3 + 1)).bind fun v309 => (cob p308.2 11 x2).bind fun _ => (fX12_both x2 v309 p308.2).bind fun p311 => if p308.1 = p311.1 then (fL_law_1223 L xs (fL_law_18 L xs n) 1000000 x1 x2 x3 p311.2) else (fL_law_1096 L xs p311.2)) else if (bAnd v4 63) = 31 then ((ldS L xs (x3 + 1)).bind fun v314 => (cob h 10 x1).bind fun _ => (fX11_tell x1 v314 h).bind fun p316 => (ldS L xs (x3 + 1)).bind fun v317 => (cob p316.2 11 x2).bind fun _ => (fX12_tell x2 v317 p316.2).bind fun p319 => if p316.1 = p319.1 then (fL_law_1223 L xs (fL_law_18 L xs n) 1000000 x1 x2 x3 p319.2) else (fL_law_1119 L xs p319.2)) else if (bAnd v4 63) = 32 then ((ldS L xs (x3 + 1)).bind fun v322 => (ldS L xs (x3 + 2)).bind fun v323 => (ldS L xs (x3 + 3)).bind fun v324 => (cob h 10 x1).bind fun _ => (fX11_check x1 v322 (lOr (lShl v323 32) (lAnd v324 4294967295)) h).bind fun p326 => (ldS L xs (x3 + 1)).bind fun v327 => (ldS L xs (x3 + 2)).bind fun v328 => (ldS L xs (x3 + 3)).bind fun v329 => (cob p326.2 11 x2).bind fun _ => (fX12_check x2 v327 (lOr (lShl v328 32) (lAnd v329 4294967295)) p326.2).bind fun p331 => if p326.1 = p331.1 then (fL_law_1223 L xs (fL_law_18 L xs n) 1000000 x1 x2 x3 p331.2) else (fL_law_1182 L xs p331.2)) else if (bAnd v4 63) = 33 then ((cob h 10 x1).bind fun _ => (crf h 1000000).bind fun _ => (crf h x1).bind fun _ => (crf h x2).bind fun _ => (fX11_load x1 h).bind fun p338 => (cob p338.2 11 x2).bind fun _ => (fX12_load x2 p338.2).bind fun p340 => if p338.1 = p340.1 then (fL_law_1223 L xs (fL_law_18 L xs n) 1000000 x1 x2 x3 p340.2) else (fL_law_1195 L xs p340.2)) else if (bAnd v4 63) = 34 then ((cob h 10 x1).bind fun _ => (fX11_undo x1 h).bind fun p344 => (cob p344.2 11 x2).bind fun _ => (fX12_undo x2 p344.2).bind fun p346 => if p344.1 = p346.1 then (fL_law_1223 L xs (fL_law_18 L xs n) 1000000 x1 x2 x3 p346.2) else (fL_law_1208 L xs p346.2)) else if (bAnd v4 63) = 35 then ((cob h 10 x1).bind fun _ => (fX11_fault x1 h).bind fun p350 => (cob p350.2 11 x2).bind fun _ => (fX12_fault x2 p350.2).bind fun p352 => if p350.1 = p352.1 then (fL_law_1223 L xs (fL_law_18 L xs n) 1000000 x1 x2 x3 p352.2) else (fL_law_1221 L xs p352.2)) else (fL_law_1223 L xs (fL_law_18 L xs n) 1000000 x1 x2 x3 h))
theorem tL_law_18 {L : Nat} {xs : Nat → Int32} {l : Launch} {res : Int × Hp} (hL : L < 2147483648) : ∀ (n : Nat) (x0 : Nat) (x1 : Nat) (x2 : Nat) (x3 : Int) (h : Hp), R32 x3 → fL_law_18 L xs n x0 x1 x2 x3 h = some res → J L xs l RL cL_law 4 false 27 (QB res) (8 * n) (515 * n) 18 [(0, vr 1000000), (1, vr x1), (2, vr x2), (3, vi x3)] [] h := by
  intro n
  induction n with
  | zero => intro x0 x1 x2 x3 h rx3 H; cases H
  | succ n ih =>
    intro x0 x1 x2 x3 h rx3 H
    rw [fL_law_18] at H
    refine j_rc (rc2 := (8 * n + 8)) (rs2 := (515 * n + 515)) (by omega) (by omega) ?_
    refine j_iload_n (i := 3) (pc' := 19) dL_law_18 rfl rfl 3 rfl ?_
    refine j_aload_n (i := 0) (pc' := 20) dL_law_19 rfl rfl 0 rfl ?_
    refine j_scln hL (pc' := 21) dL_law_20 rfl (fun r1 => ?_)
    refine j_iconst (pc' := 22) dL_law_21 rfl ?_
    refine j_isub (pc' := 23) dL_law_22 rfl ?_
    obtain ⟨u2, e2, H⟩ := bs H
    have r2 := c32_R e2
    refine j_icmp_gt (tgt := 1229) (pc' := 26) dL_law_23 (by decide) rfl rx3 r2 (fun c3 => ?_) (fun c3 => ?_)
    · rw [if_pos c3] at H
      refine j_sub (lv' := []) [] rfl ?_
      refine j_rc (rc2 := 0) (rs2 := 0) (by omega) (by omega) ?_
      exact tL_law_1229 hL   h  H
    · rw [if_neg c3] at H
      refine j_aload_n (i := 0) (pc' := 27) dL_law_26 rfl rfl 0 rfl ?_
      refine j_iload_n (i := 3) (pc' := 28) dL_law_27 rfl rfl 3 rfl ?_
      obtain ⟨v4, e4, H⟩ := bs H
      refine j_scld hL (pc' := 29) dL_law_28 rfl e4 (fun r4 => ?_)
      refine j_bipush (pc' := 31) dL_law_29 rfl (by decide +kernel) ?_
      refine j_iand (pc' := 32) dL_law_31 rfl ?_
      by_cases c5 : (bAnd v4 63) = 0
      · rw [if_pos c5] at H
        refine j_tabIn (tgt := 192) (off := 160) dL_law_32 (R32_to _) (by omega) (by omega) (by rw [c5]; rfl) (by decide) ?_
        refine j_aload_n (i := 1) (pc' := 193) dL_law_192 rfl rfl 1 rfl ?_
        refine j_aload_n (i := 0) (pc' := 194) dL_law_193 rfl rfl 0 rfl ?_
        refine j_iload_n (i := 3) (pc' := 195) dL_law_194 rfl rfl 3 rfl ?_
        refine j_iconst (pc' := 196) dL_law_195 rfl ?_
        refine j_iadd (pc' := 197) dL_law_196 rfl ?_
        obtain ⟨v6, e6, H⟩ := bs H
        refine j_scld hL (pc' := 198) dL_law_197 rfl e6 (fun r6 => ?_)
        obtain ⟨u7, e7, H⟩ := bs H
        obtain ⟨u8, e8, H⟩ := bs H
        obtain ⟨u9, e9, H⟩ := bs H
        obtain ⟨u10, e10, H⟩ := bs H
        obtain ⟨p11, e11, H⟩ := bs H
        refine j_aVb (y := yX11_things) (dY := 5) (vs := [vi v6]) (st := []) (q := x1) (mc := 8) (ms := 515) (rc := (8 * n)) (rs := (515 * n)) (pc' := 201) dL_law_198 rfl ymX11_things yvX11_things ml_L_13 (by decide) rfl (Nat.le_of_ble_eq_true rfl) (Nat.le_of_ble_eq_true rfl) e7 trivial ⟨(crf_R e8), (crf_R e9), (crf_R e10), trivial, trivial⟩ (tX11_things x1 v6 h r6 e11) (fun r11 b11 => ?_)
        refine j_aload_n (i := 2) (pc' := 202) dL_law_201 rfl rfl 2 rfl ?_
        refine j_aload_n (i := 0) (pc' := 203) dL_law_202 rfl rfl 0 rfl ?_
        refine j_iload_n (i := 3) (pc' := 204) dL_law_203 rfl rfl 3 rfl ?_
        refine j_iconst (pc' := 205) dL_law_204 rfl ?_
        refine j_iadd (pc' := 206) dL_law_205 rfl ?_
        obtain ⟨v12, e12, H⟩ := bs H
        refine j_scld hL (pc' := 207) dL_law_206 rfl e12 (fun r12 => ?_)
        obtain ⟨u13, e13, H⟩ := bs H
        obtain ⟨p14, e14, H⟩ := bs H
        refine j_cVb (y := yX12_things) (dY := 3) (vs := [vi v12]) (st := [vi p11.1]) (q := x2) (pc' := 210) dL_law_207 rfl ymX12_things yvX12_things ml_L_17 (by decide) rfl (Nat.le_of_ble_eq_true rfl) (Nat.le_of_ble_eq_true rfl) e13 (tX12_things x2 v12 p11.2 r12 e14) (fun r14 b14 z14 => ?_)
        refine j_icmp_eq (tgt := 1223) (pc' := 213) dL_law_210 (by decide) rfl r11 r14 (fun c15 => ?_) (fun c15 => ?_)
        · rw [if_pos c15] at H
          exact tL_law_1223 (n := n) hL _ ih 1000000 x1 x2 x3 p14.2 rx3 H
        · rw [if_neg c15] at H
          refine j_sub (lv' := []) [] rfl ?_
          refine j_rc (rc2 := 0) (rs2 := 0) (by omega) (by omega) ?_
          exact tL_law_213 hL   p14.2  H
      rw [if_neg c5] at H
      by_cases c16 : (bAnd v4 63) = 1
      · rw [if_pos c16] at H
        refine j_tabIn (tgt := 215) (off := 183) dL_law_32 (R32_to _) (by omega) (by omega) (by rw [c16]; rfl) (by decide) ?_
        refine j_aload_n (i := 1) (pc' := 216) dL_law_215 rfl rfl 1 rfl ?_
        refine j_aload_n (i := 0) (pc' := 217) dL_law_216 rfl rfl 0 rfl ?_
        refine j_iload_n (i := 3) (pc' := 218) dL_law_217 rfl rfl 3 rfl ?_
        refine j_iconst (pc' := 219) dL_law_218 rfl ?_
        refine j_iadd (pc' := 220) dL_law_219 rfl ?_
        obtain ⟨v17, e17, H⟩ := bs H
        refine j_scld hL (pc' := 221) dL_law_220 rfl e17 (fun r17 => ?_)
        refine j_aload_n (i := 0) (pc' := 222) dL_law_221 rfl rfl 0 rfl ?_
        refine j_iload_n (i := 3) (pc' := 223) dL_law_222 rfl rfl 3 rfl ?_
        refine j_iconst (pc' := 224) dL_law_223 rfl ?_
        refine j_iadd (pc' := 225) dL_law_224 rfl ?_
        obtain ⟨v18, e18, H⟩ := bs H
        refine j_scld hL (pc' := 226) dL_law_225 rfl e18 (fun r18 => ?_)
        refine j_aload_n (i := 0) (pc' := 227) dL_law_226 rfl rfl 0 rfl ?_
        refine j_iload_n (i := 3) (pc' := 228) dL_law_227 rfl rfl 3 rfl ?_
        refine j_iconst (pc' := 229) dL_law_228 rfl ?_
        refine j_iadd (pc' := 230) dL_law_229 rfl ?_
        obtain ⟨v19, e19, H⟩ := bs H
        refine j_scld hL (pc' := 231) dL_law_230 rfl e19 (fun r19 => ?_)
        obtain ⟨u20, e20, H⟩ := bs H
        obtain ⟨u21, e21, H⟩ := bs H
        obtain ⟨u22, e22, H⟩ := bs H
        obtain ⟨u23, e23, H⟩ := bs H
        obtain ⟨p24, e24, H⟩ := bs H
        refine j_aVi (y := yX11_way) (dY := 5) (vs := [vi v17, vi v18, vi v19]) (st := []) (q := x1) (mc := 8) (ms := 515) (rc := (8 * n)) (rs := (515 * n)) (pc' := 234) dL_law_231 rfl ymX11_way yvX11_way ml_L_18 (by decide) rfl (Nat.le_of_ble_eq_true rfl) (Nat.le_of_ble_eq_true rfl) e20 trivial ⟨(crf_R e21), (crf_R e22), (crf_R e23), trivial, trivial⟩ (tX11_way x1 v17 v18 v19 h r17 r18 r19 e24) (fun r24 => ?_)
        refine j_aload_n (i := 2) (pc' := 235) dL_law_234 rfl rfl 2 rfl ?_
        refine j_aload_n (i := 0) (pc' := 236) dL_law_235 rfl rfl 0 rfl ?_
        refine j_iload_n (i := 3) (pc' := 237) dL_law_236 rfl rfl 3 rfl ?_
        refine j_iconst (pc' := 238) dL_law_237 rfl ?_
        refine j_iadd (pc' := 239) dL_law_238 rfl ?_
        obtain ⟨v25, e25, H⟩ := bs H
        refine j_scld hL (pc' := 240) dL_law_239 rfl e25 (fun r25 => ?_)
        refine j_aload_n (i := 0) (pc' := 241) dL_law_240 rfl rfl 0 rfl ?_
        refine j_iload_n (i := 3) (pc' := 242) dL_law_241 rfl rfl 3 rfl ?_
        refine j_iconst (pc' := 243) dL_law_242 rfl ?_
        refine j_iadd (pc' := 244) dL_law_243 rfl ?_
        obtain ⟨v26, e26, H⟩ := bs H
        refine j_scld hL (pc' := 245) dL_law_244 rfl e26 (fun r26 => ?_)
        refine j_aload_n (i := 0) (pc' := 246) dL_law_245 rfl rfl 0 rfl ?_
        refine j_iload_n (i := 3) (pc' := 247) dL_law_246 rfl rfl 3 rfl ?_
        refine j_iconst (pc' := 248) dL_law_247 rfl ?_
        refine j_iadd (pc' := 249) dL_law_248 rfl ?_
        obtain ⟨v27, e27, H⟩ := bs H
        refine j_scld hL (pc' := 250) dL_law_249 rfl e27 (fun r27 => ?_)
        obtain ⟨u28, e28, H⟩ := bs H
        obtain ⟨p29, e29, H⟩ := bs H
        refine j_cVi (y := yX12_way) (dY := 4) (vs := [vi v25, vi v26, vi v27]) (st := [vi p24.1]) (q := x2) (pc' := 253) dL_law_250 rfl ymX12_way yvX12_way ml_L_22 (by decide) rfl (Nat.le_of_ble_eq_true rfl) (Nat.le_of_ble_eq_true rfl) e28 (tX12_way x2 v25 v26 v27 p24.2 r25 r26 r27 e29) (fun r29 z29 => ?_)
        refine j_icmp_eq (tgt := 1223) (pc' := 256) dL_law_253 (by decide) rfl r24 r29 (fun c30 => ?_) (fun c30 => ?_)
        · rw [if_pos c30] at H
          exact tL_law_1223 (n := n) hL _ ih 1000000 x1 x2 x3 p29.2 rx3 H
        · rw [if_neg c30] at H
          refine j_sub (lv' := []) [] rfl ?_
          refine j_rc (rc2 := 0) (rs2 := 0) (by omega) (by omega) ?_
          exact tL_law_256 hL   p29.2  H
      rw [if_neg c16] at H
      by_cases c31 : (bAnd v4 63) = 2
      · rw [if_pos c31] at H
        refine j_tabIn (tgt := 258) (off := 226) dL_law_32 (R32_to _) (by omega) (by omega) (by rw [c31]; rfl) (by decide) ?_
        refine j_aload_n (i := 1) (pc' := 259) dL_law_258 rfl rfl 1 rfl ?_
        refine j_aload_n (i := 0) (pc' := 260) dL_law_259 rfl rfl 0 rfl ?_
        refine j_iload_n (i := 3) (pc' := 261) dL_law_260 rfl rfl 3 rfl ?_
        refine j_iconst (pc' := 262) dL_law_261 rfl ?_
        refine j_iadd (pc' := 263) dL_law_262 rfl ?_
        obtain ⟨v32, e32, H⟩ := bs H
        refine j_scld hL (pc' := 264) dL_law_263 rfl e32 (fun r32 => ?_)
        refine j_aload_n (i := 0) (pc' := 265) dL_law_264 rfl rfl 0 rfl ?_
        refine j_iload_n (i := 3) (pc' := 266) dL_law_265 rfl rfl 3 rfl ?_
        refine j_iconst (pc' := 267) dL_law_266 rfl ?_
        refine j_iadd (pc' := 268) dL_law_267 rfl ?_
        obtain ⟨v33, e33, H⟩ := bs H
        refine j_scld hL (pc' := 269) dL_law_268 rfl e33 (fun r33 => ?_)
        obtain ⟨u34, e34, H⟩ := bs H
        obtain ⟨p35, e35, H⟩ := bs H
        refine j_cVi (y := yX11_sheet) (dY := 3) (vs := [vi v32, vi v33]) (st := []) (q := x1) (pc' := 272) dL_law_269 rfl ymX11_sheet yvX11_sheet ml_L_23 (by decide) rfl (Nat.le_of_ble_eq_true rfl) (Nat.le_of_ble_eq_true rfl) e34 (tX11_sheet x1 v32 v33 h r32 r33 e35) (fun r35 z35 => ?_)
        refine j_aload_n (i := 2) (pc' := 273) dL_law_272 rfl rfl 2 rfl ?_
        refine j_aload_n (i := 0) (pc' := 274) dL_law_273 rfl rfl 0 rfl ?_
        refine j_iload_n (i := 3) (pc' := 275) dL_law_274 rfl rfl 3 rfl ?_
        refine j_iconst (pc' := 276) dL_law_275 rfl ?_
        refine j_iadd (pc' := 277) dL_law_276 rfl ?_
        obtain ⟨v36, e36, H⟩ := bs H
        refine j_scld hL (pc' := 278) dL_law_277 rfl e36 (fun r36 => ?_)
        refine j_aload_n (i := 0) (pc' := 279) dL_law_278 rfl rfl 0 rfl ?_
        refine j_iload_n (i := 3) (pc' := 280) dL_law_279 rfl rfl 3 rfl ?_
        refine j_iconst (pc' := 281) dL_law_280 rfl ?_
        refine j_iadd (pc' := 282) dL_law_281 rfl ?_
        obtain ⟨v37, e37, H⟩ := bs H
        refine j_scld hL (pc' := 283) dL_law_282 rfl e37 (fun r37 => ?_)
        obtain ⟨u38, e38, H⟩ := bs H
        obtain ⟨p39, e39, H⟩ := bs H
        refine j_cVi (y := yX12_sheet) (dY := 2) (vs := [vi v36, vi v37]) (st := [vi p35.1]) (q := x2) (pc' := 286) dL_law_283 rfl ymX12_sheet yvX12_sheet ml_L_27 (by decide) rfl (Nat.le_of_ble_eq_true rfl) (Nat.le_of_ble_eq_true rfl) e38 (tX12_sheet x2 v36 v37 p35.2 r36 r37 e39) (fun r39 z39 => ?_)
        refine j_icmp_eq (tgt := 1223) (pc' := 289) dL_law_286 (by decide) rfl r35 r39 (fun c40 => ?_) (fun c40 => ?_)
        · rw [if_pos c40] at H
          refine j_rc (rc2 := (8 * n)) (rs2 := (515 * n)) (by omega) (by omega) ?_
          exact tL_law_1223 (n := n) hL _ ih 1000000 x1 x2 x3 p39.2 rx3 H
        · rw [if_neg c40] at H
          refine j_sub (lv' := []) [] rfl ?_
          refine j_rc (rc2 := 0) (rs2 := 0) (by omega) (by omega) ?_
          exact tL_law_289 hL   p39.2  H
      rw [if_neg c31] at H
      by_cases c41 : (bAnd v4 63) = 3
      · rw [if_pos c41] at H
        refine j_tabIn (tgt := 291) (off := 259) dL_law_32 (R32_to _) (by omega) (by omega) (by rw [c41]; rfl) (by decide) ?_
        refine j_aload_n (i := 1) (pc' := 292) dL_law_291 rfl rfl 1 rfl ?_
        refine j_aload_n (i := 0) (pc' := 293) dL_law_292 rfl rfl 0 rfl ?_
        refine j_iload_n (i := 3) (pc' := 294) dL_law_293 rfl rfl 3 rfl ?_
        refine j_iconst (pc' := 295) dL_law_294 rfl ?_
        refine j_iadd (pc' := 296) dL_law_295 rfl ?_
        obtain ⟨v42, e42, H⟩ := bs H
        refine j_scld hL (pc' := 297) dL_law_296 rfl e42 (fun r42 => ?_)
        refine j_aload_n (i := 0) (pc' := 298) dL_law_297 rfl rfl 0 rfl ?_
        refine j_iload_n (i := 3) (pc' := 299) dL_law_298 rfl rfl 3 rfl ?_
        refine j_iconst (pc' := 300) dL_law_299 rfl ?_
        refine j_iadd (pc' := 301) dL_law_300 rfl ?_
        obtain ⟨v43, e43, H⟩ := bs H
        refine j_scld hL (pc' := 302) dL_law_301 rfl e43 (fun r43 => ?_)
        refine j_i2l (pc' := 303) dL_law_302 rfl r43 ?_
        refine j_bipush (pc' := 305) dL_law_303 rfl (by decide +kernel) ?_
        refine j_lshl (pc' := 306) dL_law_305 rfl ?_
        refine j_aload_n (i := 0) (pc' := 307) dL_law_306 rfl rfl 0 rfl ?_
        refine j_iload_n (i := 3) (pc' := 308) dL_law_307 rfl rfl 3 rfl ?_
        refine j_iconst (pc' := 309) dL_law_308 rfl ?_
        refine j_iadd (pc' := 310) dL_law_309 rfl ?_
        obtain ⟨v44, e44, H⟩ := bs H
        refine j_scld hL (pc' := 311) dL_law_310 rfl e44 (fun r44 => ?_)
        refine j_i2l (pc' := 312) dL_law_311 rfl r44 ?_
        refine j_ldc2 (z := 4294967295) (pc' := 315) dL_law_312 rfl kk_L_28 (by decide +kernel) ?_
        refine j_land (pc' := 316) dL_law_315 rfl ?_
        refine j_lor (pc' := 317) dL_law_316 rfl ?_
        obtain ⟨u45, e45, H⟩ := bs H
        obtain ⟨p46, e46, H⟩ := bs H
        refine j_cVb (y := yX11_entry) (dY := 2) (vs := [vi v42, vl (lOr (lShl v43 32) (lAnd v44 4294967295))]) (st := []) (q := x1) (pc' := 320) dL_law_317 rfl ymX11_entry yvX11_entry ml_L_30 (by decide) rfl (Nat.le_of_ble_eq_true rfl) (Nat.le_of_ble_eq_true rfl) e45 (tX11_entry x1 v42 (lOr (lShl v43 32) (lAnd v44 4294967295)) h r42 (R64_to _) e46) (fun r46 b46 z46 => ?_)
        refine j_aload_n (i := 2) (pc' := 321) dL_law_320 rfl rfl 2 rfl ?_
        refine j_aload_n (i := 0) (pc' := 322) dL_law_321 rfl rfl 0 rfl ?_
        refine j_iload_n (i := 3) (pc' := 323) dL_law_322 rfl rfl 3 rfl ?_
        refine j_iconst (pc' := 324) dL_law_323 rfl ?_
        refine j_iadd (pc' := 325) dL_law_324 rfl ?_
        obtain ⟨v47, e47, H⟩ := bs H
        refine j_scld hL (pc' := 326) dL_law_325 rfl e47 (fun r47 => ?_)
        refine j_aload_n (i := 0) (pc' := 327) dL_law_326 rfl rfl 0 rfl ?_
        refine j_iload_n (i := 3) (pc' := 328) dL_law_327 rfl rfl 3 rfl ?_
        refine j_iconst (pc' := 329) dL_law_328 rfl ?_
        refine j_iadd (pc' := 330) dL_law_329 rfl ?_
        obtain ⟨v48, e48, H⟩ := bs H
        refine j_scld hL (pc' := 331) dL_law_330 rfl e48 (fun r48 => ?_)
        refine j_i2l (pc' := 332) dL_law_331 rfl r48 ?_
        refine j_bipush (pc' := 334) dL_law_332 rfl (by decide +kernel) ?_
        refine j_lshl (pc' := 335) dL_law_334 rfl ?_
        refine j_aload_n (i := 0) (pc' := 336) dL_law_335 rfl rfl 0 rfl ?_
        refine j_iload_n (i := 3) (pc' := 337) dL_law_336 rfl rfl 3 rfl ?_
        refine j_iconst (pc' := 338) dL_law_337 rfl ?_
        refine j_iadd (pc' := 339) dL_law_338 rfl ?_
        obtain ⟨v49, e49, H⟩ := bs H
        refine j_scld hL (pc' := 340) dL_law_339 rfl e49 (fun r49 => ?_)
        refine j_i2l (pc' := 341) dL_law_340 rfl r49 ?_
        refine j_ldc2 (z := 4294967295) (pc' := 344) dL_law_341 rfl kk_L_28 (by decide +kernel) ?_
        refine j_land (pc' := 345) dL_law_344 rfl ?_
        refine j_lor (pc' := 346) dL_law_345 rfl ?_
        obtain ⟨u50, e50, H⟩ := bs H
        obtain ⟨p51, e51, H⟩ := bs H
        refine j_cVb (y := yX12_entry) (dY := 2) (vs := [vi v47, vl (lOr (lShl v48 32) (lAnd v49 4294967295))]) (st := [vi p46.1]) (q := x2) (pc' := 349) dL_law_346 rfl ymX12_entry yvX12_entry ml_L_34 (by decide) rfl (Nat.le_of_ble_eq_true rfl) (Nat.le_of_ble_eq_true rfl) e50 (tX12_entry x2 v47 (lOr (lShl v48 32) (lAnd v49 4294967295)) p46.2 r47 (R64_to _) e51) (fun r51 b51 z51 => ?_)
        refine j_icmp_eq (tgt := 1223) (pc' := 352) dL_law_349 (by decide) rfl r46 r51 (fun c52 => ?_) (fun c52 => ?_)
        · rw [if_pos c52] at H
          refine j_rc (rc2 := (8 * n)) (rs2 := (515 * n)) (by omega) (by omega) ?_
          exact tL_law_1223 (n := n) hL _ ih 1000000 x1 x2 x3 p51.2 rx3 H
        · rw [if_neg c52] at H
          refine j_sub (lv' := []) [] rfl ?_
          refine j_rc (rc2 := 0) (rs2 := 0) (by omega) (by omega) ?_
          exact tL_law_352 hL   p51.2  H
      rw [if_neg c41] at H
      by_cases c53 : (bAnd v4 63) = 4
      · rw [if_pos c53] at H
        refine j_tabIn (tgt := 354) (off := 322) dL_law_32 (R32_to _) (by omega) (by omega) (by rw [c53]; rfl) (by decide) ?_
        refine j_aload_n (i := 1) (pc' := 355) dL_law_354 rfl rfl 1 rfl ?_
        refine j_aload_n (i := 0) (pc' := 356) dL_law_355 rfl rfl 0 rfl ?_
        refine j_iload_n (i := 3) (pc' := 357) dL_law_356 rfl rfl 3 rfl ?_
        refine j_iconst (pc' := 358) dL_law_357 rfl ?_
        refine j_iadd (pc' := 359) dL_law_358 rfl ?_
        obtain ⟨v54, e54, H⟩ := bs H
        refine j_scld hL (pc' := 360) dL_law_359 rfl e54 (fun r54 => ?_)
        obtain ⟨u55, e55, H⟩ := bs H
        obtain ⟨u56, e56, H⟩ := bs H
        obtain ⟨u57, e57, H⟩ := bs H
        obtain ⟨u58, e58, H⟩ := bs H
        obtain ⟨p59, e59, H⟩ := bs H
        refine j_aVb (y := yX11_lay) (dY := 5) (vs := [vi v54]) (st := []) (q := x1) (mc := 8) (ms := 515) (rc := (8 * n)) (rs := (515 * n)) (pc' := 363) dL_law_360 rfl ymX11_lay yvX11_lay ml_L_35 (by decide) rfl (Nat.le_of_ble_eq_true rfl) (Nat.le_of_ble_eq_true rfl) e55 trivial ⟨(crf_R e56), (crf_R e57), (crf_R e58), trivial, trivial⟩ (tX11_lay x1 v54 h r54 e59) (fun r59 b59 => ?_)
        refine j_aload_n (i := 2) (pc' := 364) dL_law_363 rfl rfl 2 rfl ?_
        refine j_aload_n (i := 0) (pc' := 365) dL_law_364 rfl rfl 0 rfl ?_
        refine j_iload_n (i := 3) (pc' := 366) dL_law_365 rfl rfl 3 rfl ?_
        refine j_iconst (pc' := 367) dL_law_366 rfl ?_
        refine j_iadd (pc' := 368) dL_law_367 rfl ?_
        obtain ⟨v60, e60, H⟩ := bs H
        refine j_scld hL (pc' := 369) dL_law_368 rfl e60 (fun r60 => ?_)
        obtain ⟨u61, e61, H⟩ := bs H
        obtain ⟨p62, e62, H⟩ := bs H
        refine j_cVb (y := yX12_lay) (dY := 3) (vs := [vi v60]) (st := [vi p59.1]) (q := x2) (pc' := 372) dL_law_369 rfl ymX12_lay yvX12_lay ml_L_38 (by decide) rfl (Nat.le_of_ble_eq_true rfl) (Nat.le_of_ble_eq_true rfl) e61 (tX12_lay x2 v60 p59.2 r60 e62) (fun r62 b62 z62 => ?_)
        refine j_icmp_eq (tgt := 1223) (pc' := 375) dL_law_372 (by decide) rfl r59 r62 (fun c63 => ?_) (fun c63 => ?_)
        · rw [if_pos c63] at H
          exact tL_law_1223 (n := n) hL _ ih 1000000 x1 x2 x3 p62.2 rx3 H
        · rw [if_neg c63] at H
          refine j_sub (lv' := []) [] rfl ?_
          refine j_rc (rc2 := 0) (rs2 := 0) (by omega) (by omega) ?_
          exact tL_law_375 hL   p62.2  H
      rw [if_neg c53] at H
      by_cases c64 : (bAnd v4 63) = 5
      · rw [if_pos c64] at H
        refine j_tabIn (tgt := 377) (off := 345) dL_law_32 (R32_to _) (by omega) (by omega) (by rw [c64]; rfl) (by decide) ?_
        refine j_aload_n (i := 1) (pc' := 378) dL_law_377 rfl rfl 1 rfl ?_
        refine j_aload_n (i := 0) (pc' := 379) dL_law_378 rfl rfl 0 rfl ?_
        refine j_iload_n (i := 3) (pc' := 380) dL_law_379 rfl rfl 3 rfl ?_
        refine j_iconst (pc' := 381) dL_law_380 rfl ?_
        refine j_iadd (pc' := 382) dL_law_381 rfl ?_
        obtain ⟨v65, e65, H⟩ := bs H
        refine j_scld hL (pc' := 383) dL_law_382 rfl e65 (fun r65 => ?_)
        obtain ⟨u66, e66, H⟩ := bs H
        obtain ⟨u67, e67, H⟩ := bs H
        obtain ⟨u68, e68, H⟩ := bs H
        obtain ⟨u69, e69, H⟩ := bs H
        obtain ⟨p70, e70, H⟩ := bs H
        refine j_aVi (y := yX11_measure) (dY := 5) (vs := [vi v65]) (st := []) (q := x1) (mc := 8) (ms := 515) (rc := (8 * n)) (rs := (515 * n)) (pc' := 386) dL_law_383 rfl ymX11_measure yvX11_measure ml_L_39 (by decide) rfl (Nat.le_of_ble_eq_true rfl) (Nat.le_of_ble_eq_true rfl) e66 trivial ⟨(crf_R e67), (crf_R e68), (crf_R e69), trivial, trivial⟩ (tX11_measure x1 v65 h r65 e70) (fun r70 => ?_)
        refine j_aload_n (i := 2) (pc' := 387) dL_law_386 rfl rfl 2 rfl ?_
        refine j_aload_n (i := 0) (pc' := 388) dL_law_387 rfl rfl 0 rfl ?_
        refine j_iload_n (i := 3) (pc' := 389) dL_law_388 rfl rfl 3 rfl ?_
        refine j_iconst (pc' := 390) dL_law_389 rfl ?_
        refine j_iadd (pc' := 391) dL_law_390 rfl ?_
        obtain ⟨v71, e71, H⟩ := bs H
        refine j_scld hL (pc' := 392) dL_law_391 rfl e71 (fun r71 => ?_)
        obtain ⟨u72, e72, H⟩ := bs H
        obtain ⟨p73, e73, H⟩ := bs H
        refine j_cVi (y := yX12_measure) (dY := 3) (vs := [vi v71]) (st := [vi p70.1]) (q := x2) (pc' := 395) dL_law_392 rfl ymX12_measure yvX12_measure ml_L_43 (by decide) rfl (Nat.le_of_ble_eq_true rfl) (Nat.le_of_ble_eq_true rfl) e72 (tX12_measure x2 v71 p70.2 r71 e73) (fun r73 z73 => ?_)
        refine j_icmp_eq (tgt := 1223) (pc' := 398) dL_law_395 (by decide) rfl r70 r73 (fun c74 => ?_) (fun c74 => ?_)
        · rw [if_pos c74] at H
          exact tL_law_1223 (n := n) hL _ ih 1000000 x1 x2 x3 p73.2 rx3 H
        · rw [if_neg c74] at H
          refine j_sub (lv' := []) [] rfl ?_
          refine j_rc (rc2 := 0) (rs2 := 0) (by omega) (by omega) ?_
          exact tL_law_398 hL   p73.2  H
      rw [if_neg c64] at H
      by_cases c75 : (bAnd v4 63) = 6
      · rw [if_pos c75] at H
        refine j_tabIn (tgt := 400) (off := 368) dL_law_32 (R32_to _) (by omega) (by omega) (by rw [c75]; rfl) (by decide) ?_
        refine j_aload_n (i := 1) (pc' := 401) dL_law_400 rfl rfl 1 rfl ?_
        refine j_aload_n (i := 0) (pc' := 402) dL_law_401 rfl rfl 0 rfl ?_
        refine j_iload_n (i := 3) (pc' := 403) dL_law_402 rfl rfl 3 rfl ?_
        refine j_iconst (pc' := 404) dL_law_403 rfl ?_
        refine j_iadd (pc' := 405) dL_law_404 rfl ?_
        obtain ⟨v76, e76, H⟩ := bs H
        refine j_scld hL (pc' := 406) dL_law_405 rfl e76 (fun r76 => ?_)
        refine j_aload_n (i := 0) (pc' := 407) dL_law_406 rfl rfl 0 rfl ?_
        refine j_iload_n (i := 3) (pc' := 408) dL_law_407 rfl rfl 3 rfl ?_
        refine j_iconst (pc' := 409) dL_law_408 rfl ?_
        refine j_iadd (pc' := 410) dL_law_409 rfl ?_
        obtain ⟨v77, e77, H⟩ := bs H
        refine j_scld hL (pc' := 411) dL_law_410 rfl e77 (fun r77 => ?_)
        refine j_aload_n (i := 0) (pc' := 412) dL_law_411 rfl rfl 0 rfl ?_
        refine j_iload_n (i := 3) (pc' := 413) dL_law_412 rfl rfl 3 rfl ?_
        refine j_iconst (pc' := 414) dL_law_413 rfl ?_
        refine j_iadd (pc' := 415) dL_law_414 rfl ?_
        obtain ⟨v78, e78, H⟩ := bs H
        refine j_scld hL (pc' := 416) dL_law_415 rfl e78 (fun r78 => ?_)
        refine j_aload_n (i := 0) (pc' := 417) dL_law_416 rfl rfl 0 rfl ?_
        refine j_iload_n (i := 3) (pc' := 418) dL_law_417 rfl rfl 3 rfl ?_
        refine j_iconst (pc' := 419) dL_law_418 rfl ?_
        refine j_iadd (pc' := 420) dL_law_419 rfl ?_
        obtain ⟨v79, e79, H⟩ := bs H
        refine j_scld hL (pc' := 421) dL_law_420 rfl e79 (fun r79 => ?_)
        refine j_if_eq (tgt := 428) (pc' := 424) dL_law_421 (by decide) rfl r79 (fun c80 => ?_) (fun c80 => ?_)
        · rw [if_pos c80] at H
          refine j_iconst (pc' := 429) dL_law_428 rfl ?_
          exact tL_law_429 (n := n) hL _ ih 1000000 x1 x2 x3 0 v78 v77 v76 x1 h rx3 ⟨by decide, by decide⟩ r78 r77 r76 H
        · rw [if_neg c80] at H
          refine j_iconst (pc' := 425) dL_law_424 rfl ?_
          refine j_goto (tgt := 429) dL_law_425 (by decide) ?_
          exact tL_law_429 (n := n) hL _ ih 1000000 x1 x2 x3 1 v78 v77 v76 x1 h rx3 ⟨by decide, by decide⟩ r78 r77 r76 H
      rw [if_neg c75] at H
      by_cases c81 : (bAnd v4 63) = 7
      · rw [if_pos c81] at H
        refine j_tabIn (tgt := 469) (off := 437) dL_law_32 (R32_to _) (by omega) (by omega) (by rw [c81]; rfl) (by decide) ?_
        refine j_aload_n (i := 1) (pc' := 470) dL_law_469 rfl rfl 1 rfl ?_
        refine j_aload_n (i := 0) (pc' := 471) dL_law_470 rfl rfl 0 rfl ?_
        refine j_iload_n (i := 3) (pc' := 472) dL_law_471 rfl rfl 3 rfl ?_
        refine j_iconst (pc' := 473) dL_law_472 rfl ?_
        refine j_iadd (pc' := 474) dL_law_473 rfl ?_
        obtain ⟨v82, e82, H⟩ := bs H
        refine j_scld hL (pc' := 475) dL_law_474 rfl e82 (fun r82 => ?_)
        refine j_aload_n (i := 0) (pc' := 476) dL_law_475 rfl rfl 0 rfl ?_
        refine j_iload_n (i := 3) (pc' := 477) dL_law_476 rfl rfl 3 rfl ?_
        refine j_iconst (pc' := 478) dL_law_477 rfl ?_
        refine j_iadd (pc' := 479) dL_law_478 rfl ?_
        obtain ⟨v83, e83, H⟩ := bs H
        refine j_scld hL (pc' := 480) dL_law_479 rfl e83 (fun r83 => ?_)
        obtain ⟨u84, e84, H⟩ := bs H
        obtain ⟨u85, e85, H⟩ := bs H
        obtain ⟨u86, e86, H⟩ := bs H
        obtain ⟨u87, e87, H⟩ := bs H
        obtain ⟨p88, e88, H⟩ := bs H
        refine j_aVi (y := yX11_put) (dY := 5) (vs := [vi v82, vi v83]) (st := []) (q := x1) (mc := 8) (ms := 515) (rc := (8 * n)) (rs := (515 * n)) (pc' := 483) dL_law_480 rfl ymX11_put yvX11_put ml_L_49 (by decide) rfl (Nat.le_of_ble_eq_true rfl) (Nat.le_of_ble_eq_true rfl) e84 trivial ⟨(crf_R e85), (crf_R e86), (crf_R e87), trivial, trivial⟩ (tX11_put x1 v82 v83 h r82 r83 e88) (fun r88 => ?_)
        refine j_aload_n (i := 2) (pc' := 484) dL_law_483 rfl rfl 2 rfl ?_
        refine j_aload_n (i := 0) (pc' := 485) dL_law_484 rfl rfl 0 rfl ?_
        refine j_iload_n (i := 3) (pc' := 486) dL_law_485 rfl rfl 3 rfl ?_
        refine j_iconst (pc' := 487) dL_law_486 rfl ?_
        refine j_iadd (pc' := 488) dL_law_487 rfl ?_
        obtain ⟨v89, e89, H⟩ := bs H
        refine j_scld hL (pc' := 489) dL_law_488 rfl e89 (fun r89 => ?_)
        refine j_aload_n (i := 0) (pc' := 490) dL_law_489 rfl rfl 0 rfl ?_
        refine j_iload_n (i := 3) (pc' := 491) dL_law_490 rfl rfl 3 rfl ?_
        refine j_iconst (pc' := 492) dL_law_491 rfl ?_
        refine j_iadd (pc' := 493) dL_law_492 rfl ?_
        obtain ⟨v90, e90, H⟩ := bs H
        refine j_scld hL (pc' := 494) dL_law_493 rfl e90 (fun r90 => ?_)
        obtain ⟨u91, e91, H⟩ := bs H
        obtain ⟨p92, e92, H⟩ := bs H
        refine j_cVi (y := yX12_put) (dY := 3) (vs := [vi v89, vi v90]) (st := [vi p88.1]) (q := x2) (pc' := 497) dL_law_494 rfl ymX12_put yvX12_put ml_L_52 (by decide) rfl (Nat.le_of_ble_eq_true rfl) (Nat.le_of_ble_eq_true rfl) e91 (tX12_put x2 v89 v90 p88.2 r89 r90 e92) (fun r92 z92 => ?_)
        refine j_icmp_eq (tgt := 1223) (pc' := 500) dL_law_497 (by decide) rfl r88 r92 (fun c93 => ?_) (fun c93 => ?_)
        · rw [if_pos c93] at H
          exact tL_law_1223 (n := n) hL _ ih 1000000 x1 x2 x3 p92.2 rx3 H
        · rw [if_neg c93] at H
          refine j_sub (lv' := []) [] rfl ?_
          refine j_rc (rc2 := 0) (rs2 := 0) (by omega) (by omega) ?_
          exact tL_law_500 hL   p92.2  H
      rw [if_neg c81] at H
      by_cases c94 : (bAnd v4 63) = 8
      · rw [if_pos c94] at H
        refine j_tabIn (tgt := 502) (off := 470) dL_law_32 (R32_to _) (by omega) (by omega) (by rw [c94]; rfl) (by decide) ?_
        refine j_aload_n (i := 1) (pc' := 503) dL_law_502 rfl rfl 1 rfl ?_
        refine j_aload_n (i := 0) (pc' := 504) dL_law_503 rfl rfl 0 rfl ?_
        refine j_iload_n (i := 3) (pc' := 505) dL_law_504 rfl rfl 3 rfl ?_
        refine j_iconst (pc' := 506) dL_law_505 rfl ?_
        refine j_iadd (pc' := 507) dL_law_506 rfl ?_
        obtain ⟨v95, e95, H⟩ := bs H
        refine j_scld hL (pc' := 508) dL_law_507 rfl e95 (fun r95 => ?_)
        obtain ⟨u96, e96, H⟩ := bs H
        obtain ⟨p97, e97, H⟩ := bs H
        refine j_cVi (y := yX11_count) (dY := 2) (vs := [vi v95]) (st := []) (q := x1) (pc' := 511) dL_law_508 rfl ymX11_count yvX11_count ml_L_53 (by decide) rfl (Nat.le_of_ble_eq_true rfl) (Nat.le_of_ble_eq_true rfl) e96 (tX11_count x1 v95 h r95 e97) (fun r97 z97 => ?_)
        refine j_aload_n (i := 2) (pc' := 512) dL_law_511 rfl rfl 2 rfl ?_
        refine j_aload_n (i := 0) (pc' := 513) dL_law_512 rfl rfl 0 rfl ?_
        refine j_iload_n (i := 3) (pc' := 514) dL_law_513 rfl rfl 3 rfl ?_
        refine j_iconst (pc' := 515) dL_law_514 rfl ?_
        refine j_iadd (pc' := 516) dL_law_515 rfl ?_
        obtain ⟨v98, e98, H⟩ := bs H
        refine j_scld hL (pc' := 517) dL_law_516 rfl e98 (fun r98 => ?_)
        obtain ⟨u99, e99, H⟩ := bs H
        obtain ⟨p100, e100, H⟩ := bs H
        refine j_cVi (y := yX12_count) (dY := 3) (vs := [vi v98]) (st := [vi p97.1]) (q := x2) (pc' := 520) dL_law_517 rfl ymX12_count yvX12_count ml_L_56 (by decide) rfl (Nat.le_of_ble_eq_true rfl) (Nat.le_of_ble_eq_true rfl) e99 (tX12_count x2 v98 p97.2 r98 e100) (fun r100 z100 => ?_)
        refine j_icmp_eq (tgt := 1223) (pc' := 523) dL_law_520 (by decide) rfl r97 r100 (fun c101 => ?_) (fun c101 => ?_)
        · rw [if_pos c101] at H
          refine j_rc (rc2 := (8 * n)) (rs2 := (515 * n)) (by omega) (by omega) ?_
          exact tL_law_1223 (n := n) hL _ ih 1000000 x1 x2 x3 p100.2 rx3 H
        · rw [if_neg c101] at H
          refine j_sub (lv' := []) [] rfl ?_
          refine j_rc (rc2 := 0) (rs2 := 0) (by omega) (by omega) ?_
          exact tL_law_523 hL   p100.2  H
      rw [if_neg c94] at H
      by_cases c102 : (bAnd v4 63) = 9
      · rw [if_pos c102] at H
        refine j_tabIn (tgt := 525) (off := 493) dL_law_32 (R32_to _) (by omega) (by omega) (by rw [c102]; rfl) (by decide) ?_
        refine j_aload_n (i := 1) (pc' := 526) dL_law_525 rfl rfl 1 rfl ?_
        refine j_aload_n (i := 0) (pc' := 527) dL_law_526 rfl rfl 0 rfl ?_
        refine j_iload_n (i := 3) (pc' := 528) dL_law_527 rfl rfl 3 rfl ?_
        refine j_iconst (pc' := 529) dL_law_528 rfl ?_
        refine j_iadd (pc' := 530) dL_law_529 rfl ?_
        obtain ⟨v103, e103, H⟩ := bs H
        refine j_scld hL (pc' := 531) dL_law_530 rfl e103 (fun r103 => ?_)
        obtain ⟨u104, e104, H⟩ := bs H
        obtain ⟨p105, e105, H⟩ := bs H
        refine j_cVi (y := yX11_heap) (dY := 2) (vs := [vi v103]) (st := []) (q := x1) (pc' := 534) dL_law_531 rfl ymX11_heap yvX11_heap ml_L_57 (by decide) rfl (Nat.le_of_ble_eq_true rfl) (Nat.le_of_ble_eq_true rfl) e104 (tX11_heap x1 v103 h r103 e105) (fun r105 z105 => ?_)
        refine j_aload_n (i := 2) (pc' := 535) dL_law_534 rfl rfl 2 rfl ?_
        refine j_aload_n (i := 0) (pc' := 536) dL_law_535 rfl rfl 0 rfl ?_
        refine j_iload_n (i := 3) (pc' := 537) dL_law_536 rfl rfl 3 rfl ?_
        refine j_iconst (pc' := 538) dL_law_537 rfl ?_
        refine j_iadd (pc' := 539) dL_law_538 rfl ?_
        obtain ⟨v106, e106, H⟩ := bs H
        refine j_scld hL (pc' := 540) dL_law_539 rfl e106 (fun r106 => ?_)
        obtain ⟨u107, e107, H⟩ := bs H
        obtain ⟨p108, e108, H⟩ := bs H
        refine j_cVi (y := yX12_heap) (dY := 3) (vs := [vi v106]) (st := [vi p105.1]) (q := x2) (pc' := 543) dL_law_540 rfl ymX12_heap yvX12_heap ml_L_60 (by decide) rfl (Nat.le_of_ble_eq_true rfl) (Nat.le_of_ble_eq_true rfl) e107 (tX12_heap x2 v106 p105.2 r106 e108) (fun r108 z108 => ?_)
        refine j_icmp_eq (tgt := 1223) (pc' := 546) dL_law_543 (by decide) rfl r105 r108 (fun c109 => ?_) (fun c109 => ?_)
        · rw [if_pos c109] at H
          refine j_rc (rc2 := (8 * n)) (rs2 := (515 * n)) (by omega) (by omega) ?_
          exact tL_law_1223 (n := n) hL _ ih 1000000 x1 x2 x3 p108.2 rx3 H
        · rw [if_neg c109] at H
          refine j_sub (lv' := []) [] rfl ?_
          refine j_rc (rc2 := 0) (rs2 := 0) (by omega) (by omega) ?_
          exact tL_law_546 hL   p108.2  H
      rw [if_neg c102] at H
      by_cases c110 : (bAnd v4 63) = 10
      · rw [if_pos c110] at H
        refine j_tabIn (tgt := 548) (off := 516) dL_law_32 (R32_to _) (by omega) (by omega) (by rw [c110]; rfl) (by decide) ?_
        refine j_aload_n (i := 1) (pc' := 549) dL_law_548 rfl rfl 1 rfl ?_
        refine j_aload_n (i := 0) (pc' := 550) dL_law_549 rfl rfl 0 rfl ?_
        refine j_iload_n (i := 3) (pc' := 551) dL_law_550 rfl rfl 3 rfl ?_
        refine j_iconst (pc' := 552) dL_law_551 rfl ?_
        refine j_iadd (pc' := 553) dL_law_552 rfl ?_
        obtain ⟨v111, e111, H⟩ := bs H
        refine j_scld hL (pc' := 554) dL_law_553 rfl e111 (fun r111 => ?_)
        refine j_aload_n (i := 0) (pc' := 555) dL_law_554 rfl rfl 0 rfl ?_
        refine j_iload_n (i := 3) (pc' := 556) dL_law_555 rfl rfl 3 rfl ?_
        refine j_iconst (pc' := 557) dL_law_556 rfl ?_
        refine j_iadd (pc' := 558) dL_law_557 rfl ?_
        obtain ⟨v112, e112, H⟩ := bs H
        refine j_scld hL (pc' := 559) dL_law_558 rfl e112 (fun r112 => ?_)
        refine j_aload_n (i := 0) (pc' := 560) dL_law_559 rfl rfl 0 rfl ?_
        refine j_iload_n (i := 3) (pc' := 561) dL_law_560 rfl rfl 3 rfl ?_
        refine j_iconst (pc' := 562) dL_law_561 rfl ?_
        refine j_iadd (pc' := 563) dL_law_562 rfl ?_
        obtain ⟨v113, e113, H⟩ := bs H
        refine j_scld hL (pc' := 564) dL_law_563 rfl e113 (fun r113 => ?_)
        obtain ⟨u114, e114, H⟩ := bs H
        obtain ⟨p115, e115, H⟩ := bs H
        refine j_cVi (y := yX11_pair) (dY := 2) (vs := [vi v111, vi v112, vi v113]) (st := []) (q := x1) (pc' := 567) dL_law_564 rfl ymX11_pair yvX11_pair ml_L_61 (by decide) rfl (Nat.le_of_ble_eq_true rfl) (Nat.le_of_ble_eq_true rfl) e114 (tX11_pair x1 v111 v112 v113 h r111 r112 r113 e115) (fun r115 z115 => ?_)
        refine j_aload_n (i := 2) (pc' := 568) dL_law_567 rfl rfl 2 rfl ?_
        refine j_aload_n (i := 0) (pc' := 569) dL_law_568 rfl rfl 0 rfl ?_
        refine j_iload_n (i := 3) (pc' := 570) dL_law_569 rfl rfl 3 rfl ?_
        refine j_iconst (pc' := 571) dL_law_570 rfl ?_
        refine j_iadd (pc' := 572) dL_law_571 rfl ?_
        obtain ⟨v116, e116, H⟩ := bs H
        refine j_scld hL (pc' := 573) dL_law_572 rfl e116 (fun r116 => ?_)
        refine j_aload_n (i := 0) (pc' := 574) dL_law_573 rfl rfl 0 rfl ?_
        refine j_iload_n (i := 3) (pc' := 575) dL_law_574 rfl rfl 3 rfl ?_
        refine j_iconst (pc' := 576) dL_law_575 rfl ?_
        refine j_iadd (pc' := 577) dL_law_576 rfl ?_
        obtain ⟨v117, e117, H⟩ := bs H
        refine j_scld hL (pc' := 578) dL_law_577 rfl e117 (fun r117 => ?_)
        refine j_aload_n (i := 0) (pc' := 579) dL_law_578 rfl rfl 0 rfl ?_
        refine j_iload_n (i := 3) (pc' := 580) dL_law_579 rfl rfl 3 rfl ?_
        refine j_iconst (pc' := 581) dL_law_580 rfl ?_
        refine j_iadd (pc' := 582) dL_law_581 rfl ?_
        obtain ⟨v118, e118, H⟩ := bs H
        refine j_scld hL (pc' := 583) dL_law_582 rfl e118 (fun r118 => ?_)
        obtain ⟨u119, e119, H⟩ := bs H
        obtain ⟨p120, e120, H⟩ := bs H
        refine j_cVi (y := yX12_pair) (dY := 3) (vs := [vi v116, vi v117, vi v118]) (st := [vi p115.1]) (q := x2) (pc' := 586) dL_law_583 rfl ymX12_pair yvX12_pair ml_L_64 (by decide) rfl (Nat.le_of_ble_eq_true rfl) (Nat.le_of_ble_eq_true rfl) e119 (tX12_pair x2 v116 v117 v118 p115.2 r116 r117 r118 e120) (fun r120 z120 => ?_)
        refine j_icmp_eq (tgt := 1223) (pc' := 589) dL_law_586 (by decide) rfl r115 r120 (fun c121 => ?_) (fun c121 => ?_)
        · rw [if_pos c121] at H
          refine j_rc (rc2 := (8 * n)) (rs2 := (515 * n)) (by omega) (by omega) ?_
          exact tL_law_1223 (n := n) hL _ ih 1000000 x1 x2 x3 p120.2 rx3 H
        · rw [if_neg c121] at H
          refine j_sub (lv' := []) [] rfl ?_
          refine j_rc (rc2 := 0) (rs2 := 0) (by omega) (by omega) ?_
          exact tL_law_589 hL   p120.2  H
      rw [if_neg c110] at H
      by_cases c122 : (bAnd v4 63) = 11
      · rw [if_pos c122] at H
        refine j_tabIn (tgt := 591) (off := 559) dL_law_32 (R32_to _) (by omega) (by omega) (by rw [c122]; rfl) (by decide) ?_
        refine j_aload_n (i := 1) (pc' := 592) dL_law_591 rfl rfl 1 rfl ?_
        refine j_aload_n (i := 0) (pc' := 593) dL_law_592 rfl rfl 0 rfl ?_
        refine j_iload_n (i := 3) (pc' := 594) dL_law_593 rfl rfl 3 rfl ?_
        refine j_iconst (pc' := 595) dL_law_594 rfl ?_
        refine j_iadd (pc' := 596) dL_law_595 rfl ?_
        obtain ⟨v123, e123, H⟩ := bs H
        refine j_scld hL (pc' := 597) dL_law_596 rfl e123 (fun r123 => ?_)
        obtain ⟨u124, e124, H⟩ := bs H
        obtain ⟨p125, e125, H⟩ := bs H
        refine j_cVl (y := yX11_cost) (dY := 6) (vs := [vi v123]) (st := []) (q := x1) (pc' := 600) dL_law_597 rfl ymX11_cost yvX11_cost ml_L_65 (by decide) rfl (Nat.le_of_ble_eq_true rfl) (Nat.le_of_ble_eq_true rfl) e124 (tX11_cost x1 v123 h r123 e125) (fun r125 z125 => ?_)
        refine j_aload_n (i := 2) (pc' := 601) dL_law_600 rfl rfl 2 rfl ?_
        refine j_aload_n (i := 0) (pc' := 602) dL_law_601 rfl rfl 0 rfl ?_
        refine j_iload_n (i := 3) (pc' := 603) dL_law_602 rfl rfl 3 rfl ?_
        refine j_iconst (pc' := 604) dL_law_603 rfl ?_
        refine j_iadd (pc' := 605) dL_law_604 rfl ?_
        obtain ⟨v126, e126, H⟩ := bs H
        refine j_scld hL (pc' := 606) dL_law_605 rfl e126 (fun r126 => ?_)
        obtain ⟨u127, e127, H⟩ := bs H
        obtain ⟨p128, e128, H⟩ := bs H
        refine j_cVl (y := yX12_cost) (dY := 5) (vs := [vi v126]) (st := [vl p125.1]) (q := x2) (pc' := 609) dL_law_606 rfl ymX12_cost yvX12_cost ml_L_69 (by decide) rfl (Nat.le_of_ble_eq_true rfl) (Nat.le_of_ble_eq_true rfl) e127 (tX12_cost x2 v126 p125.2 r126 e128) (fun r128 z128 => ?_)
        refine j_lcmp (pc' := 610) dL_law_609 rfl r125 r128 ?_
        refine j_if_eq (tgt := 1223) (pc' := 613) dL_law_610 (by decide) rfl (R32_lcmp _ _) (fun c129 => ?_) (fun c129 => ?_)
        · rw [if_pos c129] at H
          refine j_rc (rc2 := (8 * n)) (rs2 := (515 * n)) (by omega) (by omega) ?_
          exact tL_law_1223 (n := n) hL _ ih 1000000 x1 x2 x3 p128.2 rx3 H
        · rw [if_neg c129] at H
          refine j_sub (lv' := []) [] rfl ?_
          refine j_rc (rc2 := 0) (rs2 := 0) (by omega) (by omega) ?_
          exact tL_law_613 hL   p128.2  H
      rw [if_neg c122] at H
      by_cases c130 : (bAnd v4 63) = 12
      · rw [if_pos c130] at H
        refine j_tabIn (tgt := 615) (off := 583) dL_law_32 (R32_to _) (by omega) (by omega) (by rw [c130]; rfl) (by decide) ?_
        refine j_aload_n (i := 1) (pc' := 616) dL_law_615 rfl rfl 1 rfl ?_
        refine j_aload_n (i := 0) (pc' := 617) dL_law_616 rfl rfl 0 rfl ?_
        refine j_iload_n (i := 3) (pc' := 618) dL_law_617 rfl rfl 3 rfl ?_
        refine j_iconst (pc' := 619) dL_law_618 rfl ?_
        refine j_iadd (pc' := 620) dL_law_619 rfl ?_
        obtain ⟨v131, e131, H⟩ := bs H
        refine j_scld hL (pc' := 621) dL_law_620 rfl e131 (fun r131 => ?_)
        obtain ⟨u132, e132, H⟩ := bs H
        obtain ⟨p133, e133, H⟩ := bs H
        refine j_cVi (y := yX11_middle) (dY := 4) (vs := [vi v131]) (st := []) (q := x1) (pc' := 624) dL_law_621 rfl ymX11_middle yvX11_middle ml_L_70 (by decide) rfl (Nat.le_of_ble_eq_true rfl) (Nat.le_of_ble_eq_true rfl) e132 (tX11_middle x1 v131 h r131 e133) (fun r133 z133 => ?_)
        refine j_aload_n (i := 2) (pc' := 625) dL_law_624 rfl rfl 2 rfl ?_
        refine j_aload_n (i := 0) (pc' := 626) dL_law_625 rfl rfl 0 rfl ?_
        refine j_iload_n (i := 3) (pc' := 627) dL_law_626 rfl rfl 3 rfl ?_
        refine j_iconst (pc' := 628) dL_law_627 rfl ?_
        refine j_iadd (pc' := 629) dL_law_628 rfl ?_
        obtain ⟨v134, e134, H⟩ := bs H
        refine j_scld hL (pc' := 630) dL_law_629 rfl e134 (fun r134 => ?_)
        obtain ⟨u135, e135, H⟩ := bs H
        obtain ⟨p136, e136, H⟩ := bs H
        refine j_cVi (y := yX12_middle) (dY := 4) (vs := [vi v134]) (st := [vi p133.1]) (q := x2) (pc' := 633) dL_law_630 rfl ymX12_middle yvX12_middle ml_L_73 (by decide) rfl (Nat.le_of_ble_eq_true rfl) (Nat.le_of_ble_eq_true rfl) e135 (tX12_middle x2 v134 p133.2 r134 e136) (fun r136 z136 => ?_)
        refine j_icmp_eq (tgt := 1223) (pc' := 636) dL_law_633 (by decide) rfl r133 r136 (fun c137 => ?_) (fun c137 => ?_)
        · rw [if_pos c137] at H
          refine j_rc (rc2 := (8 * n)) (rs2 := (515 * n)) (by omega) (by omega) ?_
          exact tL_law_1223 (n := n) hL _ ih 1000000 x1 x2 x3 p136.2 rx3 H
        · rw [if_neg c137] at H
          refine j_sub (lv' := []) [] rfl ?_
          refine j_rc (rc2 := 0) (rs2 := 0) (by omega) (by omega) ?_
          exact tL_law_636 hL   p136.2  H
      rw [if_neg c130] at H
      by_cases c138 : (bAnd v4 63) = 13
      · rw [if_pos c138] at H
        refine j_tabIn (tgt := 638) (off := 606) dL_law_32 (R32_to _) (by omega) (by omega) (by rw [c138]; rfl) (by decide) ?_
        refine j_aload_n (i := 1) (pc' := 639) dL_law_638 rfl rfl 1 rfl ?_
        refine j_aload_n (i := 0) (pc' := 640) dL_law_639 rfl rfl 0 rfl ?_
        refine j_iload_n (i := 3) (pc' := 641) dL_law_640 rfl rfl 3 rfl ?_
        refine j_iconst (pc' := 642) dL_law_641 rfl ?_
        refine j_iadd (pc' := 643) dL_law_642 rfl ?_
        obtain ⟨v139, e139, H⟩ := bs H
        refine j_scld hL (pc' := 644) dL_law_643 rfl e139 (fun r139 => ?_)
        refine j_aload_n (i := 0) (pc' := 645) dL_law_644 rfl rfl 0 rfl ?_
        refine j_iload_n (i := 3) (pc' := 646) dL_law_645 rfl rfl 3 rfl ?_
        refine j_iconst (pc' := 647) dL_law_646 rfl ?_
        refine j_iadd (pc' := 648) dL_law_647 rfl ?_
        obtain ⟨v140, e140, H⟩ := bs H
        refine j_scld hL (pc' := 649) dL_law_648 rfl e140 (fun r140 => ?_)
        obtain ⟨u141, e141, H⟩ := bs H
        obtain ⟨u142, e142, H⟩ := bs H
        obtain ⟨u143, e143, H⟩ := bs H
        obtain ⟨u144, e144, H⟩ := bs H
        obtain ⟨p145, e145, H⟩ := bs H
        refine j_aVl (y := yX11_best) (dY := 25) (vs := [vi v139, vi v140]) (st := []) (q := x1) (mc := 8) (ms := 515) (rc := (8 * n)) (rs := (515 * n)) (pc' := 652) dL_law_649 rfl ymX11_best yvX11_best ml_L_74 (by decide) rfl (Nat.le_of_ble_eq_true rfl) (Nat.le_of_ble_eq_true rfl) e141 trivial ⟨(crf_R e142), (crf_R e143), (crf_R e144), trivial, trivial⟩ (tX11_best x1 v139 v140 h r139 r140 e145) (fun r145 => ?_)
        refine j_aload_n (i := 2) (pc' := 653) dL_law_652 rfl rfl 2 rfl ?_
        refine j_aload_n (i := 0) (pc' := 654) dL_law_653 rfl rfl 0 rfl ?_
        refine j_iload_n (i := 3) (pc' := 655) dL_law_654 rfl rfl 3 rfl ?_
        refine j_iconst (pc' := 656) dL_law_655 rfl ?_
        refine j_iadd (pc' := 657) dL_law_656 rfl ?_
        obtain ⟨v146, e146, H⟩ := bs H
        refine j_scld hL (pc' := 658) dL_law_657 rfl e146 (fun r146 => ?_)
        refine j_aload_n (i := 0) (pc' := 659) dL_law_658 rfl rfl 0 rfl ?_
        refine j_iload_n (i := 3) (pc' := 660) dL_law_659 rfl rfl 3 rfl ?_
        refine j_iconst (pc' := 661) dL_law_660 rfl ?_
        refine j_iadd (pc' := 662) dL_law_661 rfl ?_
        obtain ⟨v147, e147, H⟩ := bs H
        refine j_scld hL (pc' := 663) dL_law_662 rfl e147 (fun r147 => ?_)
        obtain ⟨u148, e148, H⟩ := bs H
        obtain ⟨p149, e149, H⟩ := bs H
        refine j_cVl (y := yX12_best) (dY := 6) (vs := [vi v146, vi v147]) (st := [vl p145.1]) (q := x2) (pc' := 666) dL_law_663 rfl ymX12_best yvX12_best ml_L_78 (by decide) rfl (Nat.le_of_ble_eq_true rfl) (Nat.le_of_ble_eq_true rfl) e148 (tX12_best x2 v146 v147 p145.2 r146 r147 e149) (fun r149 z149 => ?_)
        refine j_lcmp (pc' := 667) dL_law_666 rfl r145 r149 ?_
        refine j_if_eq (tgt := 1223) (pc' := 670) dL_law_667 (by decide) rfl (R32_lcmp _ _) (fun c150 => ?_) (fun c150 => ?_)
        · rw [if_pos c150] at H
          exact tL_law_1223 (n := n) hL _ ih 1000000 x1 x2 x3 p149.2 rx3 H
        · rw [if_neg c150] at H
          refine j_sub (lv' := []) [] rfl ?_
          refine j_rc (rc2 := 0) (rs2 := 0) (by omega) (by omega) ?_
          exact tL_law_670 hL   p149.2  H
      rw [if_neg c138] at H
      by_cases c151 : (bAnd v4 63) = 14
      · rw [if_pos c151] at H
        refine j_tabIn (tgt := 672) (off := 640) dL_law_32 (R32_to _) (by omega) (by omega) (by rw [c151]; rfl) (by decide) ?_
        refine j_aload_n (i := 1) (pc' := 673) dL_law_672 rfl rfl 1 rfl ?_
        refine j_aload_n (i := 0) (pc' := 674) dL_law_673 rfl rfl 0 rfl ?_
        refine j_iload_n (i := 3) (pc' := 675) dL_law_674 rfl rfl 3 rfl ?_
        refine j_iconst (pc' := 676) dL_law_675 rfl ?_
        refine j_iadd (pc' := 677) dL_law_676 rfl ?_
        obtain ⟨v152, e152, H⟩ := bs H
        refine j_scld hL (pc' := 678) dL_law_677 rfl e152 (fun r152 => ?_)
        refine j_aload_n (i := 0) (pc' := 679) dL_law_678 rfl rfl 0 rfl ?_
        refine j_iload_n (i := 3) (pc' := 680) dL_law_679 rfl rfl 3 rfl ?_
        refine j_iconst (pc' := 681) dL_law_680 rfl ?_
        refine j_iadd (pc' := 682) dL_law_681 rfl ?_
        obtain ⟨v153, e153, H⟩ := bs H
        refine j_scld hL (pc' := 683) dL_law_682 rfl e153 (fun r153 => ?_)
        obtain ⟨u154, e154, H⟩ := bs H
        obtain ⟨u155, e155, H⟩ := bs H
        obtain ⟨u156, e156, H⟩ := bs H
        obtain ⟨u157, e157, H⟩ := bs H
        obtain ⟨p158, e158, H⟩ := bs H
        refine j_aVl (y := yX11_line) (dY := 7) (vs := [vi v152, vi v153]) (st := []) (q := x1) (mc := 8) (ms := 515) (rc := (8 * n)) (rs := (515 * n)) (pc' := 686) dL_law_683 rfl ymX11_line yvX11_line ml_L_79 (by decide) rfl (Nat.le_of_ble_eq_true rfl) (Nat.le_of_ble_eq_true rfl) e154 trivial ⟨(crf_R e155), (crf_R e156), (crf_R e157), trivial, trivial⟩ (tX11_line x1 v152 v153 h r152 r153 e158) (fun r158 => ?_)
        refine j_aload_n (i := 2) (pc' := 687) dL_law_686 rfl rfl 2 rfl ?_
        refine j_aload_n (i := 0) (pc' := 688) dL_law_687 rfl rfl 0 rfl ?_
        refine j_iload_n (i := 3) (pc' := 689) dL_law_688 rfl rfl 3 rfl ?_
        refine j_iconst (pc' := 690) dL_law_689 rfl ?_
        refine j_iadd (pc' := 691) dL_law_690 rfl ?_
        obtain ⟨v159, e159, H⟩ := bs H
        refine j_scld hL (pc' := 692) dL_law_691 rfl e159 (fun r159 => ?_)
        refine j_aload_n (i := 0) (pc' := 693) dL_law_692 rfl rfl 0 rfl ?_
        refine j_iload_n (i := 3) (pc' := 694) dL_law_693 rfl rfl 3 rfl ?_
        refine j_iconst (pc' := 695) dL_law_694 rfl ?_
        refine j_iadd (pc' := 696) dL_law_695 rfl ?_
        obtain ⟨v160, e160, H⟩ := bs H
        refine j_scld hL (pc' := 697) dL_law_696 rfl e160 (fun r160 => ?_)
        obtain ⟨u161, e161, H⟩ := bs H
        obtain ⟨p162, e162, H⟩ := bs H
        refine j_cVl (y := yX12_line) (dY := 5) (vs := [vi v159, vi v160]) (st := [vl p158.1]) (q := x2) (pc' := 700) dL_law_697 rfl ymX12_line yvX12_line ml_L_82 (by decide) rfl (Nat.le_of_ble_eq_true rfl) (Nat.le_of_ble_eq_true rfl) e161 (tX12_line x2 v159 v160 p158.2 r159 r160 e162) (fun r162 z162 => ?_)
        refine j_lcmp (pc' := 701) dL_law_700 rfl r158 r162 ?_
        refine j_if_eq (tgt := 1223) (pc' := 704) dL_law_701 (by decide) rfl (R32_lcmp _ _) (fun c163 => ?_) (fun c163 => ?_)
        · rw [if_pos c163] at H
          exact tL_law_1223 (n := n) hL _ ih 1000000 x1 x2 x3 p162.2 rx3 H
        · rw [if_neg c163] at H
          refine j_sub (lv' := []) [] rfl ?_
          refine j_rc (rc2 := 0) (rs2 := 0) (by omega) (by omega) ?_
          exact tL_law_704 hL   p162.2  H
      rw [if_neg c151] at H
      by_cases c164 : (bAnd v4 63) = 15
      · rw [if_pos c164] at H
        refine j_tabIn (tgt := 706) (off := 674) dL_law_32 (R32_to _) (by omega) (by omega) (by rw [c164]; rfl) (by decide) ?_
        refine j_aload_n (i := 1) (pc' := 707) dL_law_706 rfl rfl 1 rfl ?_
        refine j_aload_n (i := 0) (pc' := 708) dL_law_707 rfl rfl 0 rfl ?_
        refine j_iload_n (i := 3) (pc' := 709) dL_law_708 rfl rfl 3 rfl ?_
        refine j_iconst (pc' := 710) dL_law_709 rfl ?_
        refine j_iadd (pc' := 711) dL_law_710 rfl ?_
        obtain ⟨v165, e165, H⟩ := bs H
        refine j_scld hL (pc' := 712) dL_law_711 rfl e165 (fun r165 => ?_)
        obtain ⟨u166, e166, H⟩ := bs H
        obtain ⟨u167, e167, H⟩ := bs H
        obtain ⟨u168, e168, H⟩ := bs H
        obtain ⟨u169, e169, H⟩ := bs H
        obtain ⟨p170, e170, H⟩ := bs H
        refine j_aVi (y := yX11_better) (dY := 8) (vs := [vi v165]) (st := []) (q := x1) (mc := 8) (ms := 515) (rc := (8 * n)) (rs := (515 * n)) (pc' := 715) dL_law_712 rfl ymX11_better yvX11_better ml_L_83 (by decide) rfl (Nat.le_of_ble_eq_true rfl) (Nat.le_of_ble_eq_true rfl) e166 trivial ⟨(crf_R e167), (crf_R e168), (crf_R e169), trivial, trivial⟩ (tX11_better x1 v165 h r165 e170) (fun r170 => ?_)
        refine j_aload_n (i := 2) (pc' := 716) dL_law_715 rfl rfl 2 rfl ?_
        refine j_aload_n (i := 0) (pc' := 717) dL_law_716 rfl rfl 0 rfl ?_
        refine j_iload_n (i := 3) (pc' := 718) dL_law_717 rfl rfl 3 rfl ?_
        refine j_iconst (pc' := 719) dL_law_718 rfl ?_
        refine j_iadd (pc' := 720) dL_law_719 rfl ?_
        obtain ⟨v171, e171, H⟩ := bs H
        refine j_scld hL (pc' := 721) dL_law_720 rfl e171 (fun r171 => ?_)
        obtain ⟨u172, e172, H⟩ := bs H
        obtain ⟨p173, e173, H⟩ := bs H
        refine j_cVi (y := yX12_better) (dY := 5) (vs := [vi v171]) (st := [vi p170.1]) (q := x2) (pc' := 724) dL_law_721 rfl ymX12_better yvX12_better ml_L_86 (by decide) rfl (Nat.le_of_ble_eq_true rfl) (Nat.le_of_ble_eq_true rfl) e172 (tX12_better x2 v171 p170.2 r171 e173) (fun r173 z173 => ?_)
        refine j_icmp_eq (tgt := 1223) (pc' := 727) dL_law_724 (by decide) rfl r170 r173 (fun c174 => ?_) (fun c174 => ?_)
        · rw [if_pos c174] at H
          exact tL_law_1223 (n := n) hL _ ih 1000000 x1 x2 x3 p173.2 rx3 H
        · rw [if_neg c174] at H
          refine j_sub (lv' := []) [] rfl ?_
          refine j_rc (rc2 := 0) (rs2 := 0) (by omega) (by omega) ?_
          exact tL_law_727 hL   p173.2  H
      rw [if_neg c164] at H
      by_cases c175 : (bAnd v4 63) = 16
      · rw [if_pos c175] at H
        refine j_tabIn (tgt := 729) (off := 697) dL_law_32 (R32_to _) (by omega) (by omega) (by rw [c175]; rfl) (by decide) ?_
        refine j_aload_n (i := 1) (pc' := 730) dL_law_729 rfl rfl 1 rfl ?_
        obtain ⟨u176, e176, H⟩ := bs H
        obtain ⟨u177, e177, H⟩ := bs H
        obtain ⟨u178, e178, H⟩ := bs H
        obtain ⟨u179, e179, H⟩ := bs H
        obtain ⟨p180, e180, H⟩ := bs H
        refine j_aVi (y := yX11_two) (dY := 25) (vs := []) (st := []) (q := x1) (mc := 8) (ms := 515) (rc := (8 * n)) (rs := (515 * n)) (pc' := 733) dL_law_730 rfl ymX11_two yvX11_two ml_L_87 (by decide) rfl (Nat.le_of_ble_eq_true rfl) (Nat.le_of_ble_eq_true rfl) e176 trivial ⟨(crf_R e177), (crf_R e178), (crf_R e179), trivial, trivial⟩ (tX11_two x1 h e180) (fun r180 => ?_)
        refine j_aload_n (i := 2) (pc' := 734) dL_law_733 rfl rfl 2 rfl ?_
        obtain ⟨u181, e181, H⟩ := bs H
        obtain ⟨p182, e182, H⟩ := bs H
        refine j_cVi (y := yX12_two) (dY := 5) (vs := []) (st := [vi p180.1]) (q := x2) (pc' := 737) dL_law_734 rfl ymX12_two yvX12_two ml_L_91 (by decide) rfl (Nat.le_of_ble_eq_true rfl) (Nat.le_of_ble_eq_true rfl) e181 (tX12_two x2 p180.2 e182) (fun r182 z182 => ?_)
        refine j_icmp_eq (tgt := 1223) (pc' := 740) dL_law_737 (by decide) rfl r180 r182 (fun c183 => ?_) (fun c183 => ?_)
        · rw [if_pos c183] at H
          exact tL_law_1223 (n := n) hL _ ih 1000000 x1 x2 x3 p182.2 rx3 H
        · rw [if_neg c183] at H
          refine j_sub (lv' := []) [] rfl ?_
          refine j_rc (rc2 := 0) (rs2 := 0) (by omega) (by omega) ?_
          exact tL_law_740 hL   p182.2  H
      rw [if_neg c175] at H
      by_cases c184 : (bAnd v4 63) = 17
      · rw [if_pos c184] at H
        refine j_tabIn (tgt := 742) (off := 710) dL_law_32 (R32_to _) (by omega) (by omega) (by rw [c184]; rfl) (by decide) ?_
        refine j_aload_n (i := 1) (pc' := 743) dL_law_742 rfl rfl 1 rfl ?_
        refine j_aload_n (i := 0) (pc' := 744) dL_law_743 rfl rfl 0 rfl ?_
        refine j_iload_n (i := 3) (pc' := 745) dL_law_744 rfl rfl 3 rfl ?_
        refine j_iconst (pc' := 746) dL_law_745 rfl ?_
        refine j_iadd (pc' := 747) dL_law_746 rfl ?_
        obtain ⟨v185, e185, H⟩ := bs H
        refine j_scld hL (pc' := 748) dL_law_747 rfl e185 (fun r185 => ?_)
        obtain ⟨u186, e186, H⟩ := bs H
        obtain ⟨u187, e187, H⟩ := bs H
        obtain ⟨u188, e188, H⟩ := bs H
        obtain ⟨u189, e189, H⟩ := bs H
        obtain ⟨p190, e190, H⟩ := bs H
        refine j_aVi (y := yX11_centres) (dY := 5) (vs := [vi v185]) (st := []) (q := x1) (mc := 8) (ms := 515) (rc := (8 * n)) (rs := (515 * n)) (pc' := 751) dL_law_748 rfl ymX11_centres yvX11_centres ml_L_92 (by decide) rfl (Nat.le_of_ble_eq_true rfl) (Nat.le_of_ble_eq_true rfl) e186 trivial ⟨(crf_R e187), (crf_R e188), (crf_R e189), trivial, trivial⟩ (tX11_centres x1 v185 h r185 e190) (fun r190 => ?_)
        refine j_aload_n (i := 2) (pc' := 752) dL_law_751 rfl rfl 2 rfl ?_
        refine j_aload_n (i := 0) (pc' := 753) dL_law_752 rfl rfl 0 rfl ?_
        refine j_iload_n (i := 3) (pc' := 754) dL_law_753 rfl rfl 3 rfl ?_
        refine j_iconst (pc' := 755) dL_law_754 rfl ?_
        refine j_iadd (pc' := 756) dL_law_755 rfl ?_
        obtain ⟨v191, e191, H⟩ := bs H
        refine j_scld hL (pc' := 757) dL_law_756 rfl e191 (fun r191 => ?_)
        obtain ⟨u192, e192, H⟩ := bs H
        obtain ⟨p193, e193, H⟩ := bs H
        refine j_cVi (y := yX12_centres) (dY := 3) (vs := [vi v191]) (st := [vi p190.1]) (q := x2) (pc' := 760) dL_law_757 rfl ymX12_centres yvX12_centres ml_L_95 (by decide) rfl (Nat.le_of_ble_eq_true rfl) (Nat.le_of_ble_eq_true rfl) e192 (tX12_centres x2 v191 p190.2 r191 e193) (fun r193 z193 => ?_)
        refine j_icmp_eq (tgt := 1223) (pc' := 763) dL_law_760 (by decide) rfl r190 r193 (fun c194 => ?_) (fun c194 => ?_)
        · rw [if_pos c194] at H
          exact tL_law_1223 (n := n) hL _ ih 1000000 x1 x2 x3 p193.2 rx3 H
        · rw [if_neg c194] at H
          refine j_sub (lv' := []) [] rfl ?_
          refine j_rc (rc2 := 0) (rs2 := 0) (by omega) (by omega) ?_
          exact tL_law_763 hL   p193.2  H
      rw [if_neg c184] at H
      by_cases c195 : (bAnd v4 63) = 18
      · rw [if_pos c195] at H
        refine j_tabIn (tgt := 765) (off := 733) dL_law_32 (R32_to _) (by omega) (by omega) (by rw [c195]; rfl) (by decide) ?_
        refine j_aload_n (i := 1) (pc' := 766) dL_law_765 rfl rfl 1 rfl ?_
        refine j_aload_n (i := 0) (pc' := 767) dL_law_766 rfl rfl 0 rfl ?_
        refine j_iload_n (i := 3) (pc' := 768) dL_law_767 rfl rfl 3 rfl ?_
        refine j_iconst (pc' := 769) dL_law_768 rfl ?_
        refine j_iadd (pc' := 770) dL_law_769 rfl ?_
        obtain ⟨v196, e196, H⟩ := bs H
        refine j_scld hL (pc' := 771) dL_law_770 rfl e196 (fun r196 => ?_)
        obtain ⟨u197, e197, H⟩ := bs H
        obtain ⟨u198, e198, H⟩ := bs H
        obtain ⟨u199, e199, H⟩ := bs H
        obtain ⟨u200, e200, H⟩ := bs H
        obtain ⟨p201, e201, H⟩ := bs H
        refine j_aVl (y := yX11_third) (dY := 6) (vs := [vi v196]) (st := []) (q := x1) (mc := 8) (ms := 515) (rc := (8 * n)) (rs := (515 * n)) (pc' := 774) dL_law_771 rfl ymX11_third yvX11_third ml_L_96 (by decide) rfl (Nat.le_of_ble_eq_true rfl) (Nat.le_of_ble_eq_true rfl) e197 trivial ⟨(crf_R e198), (crf_R e199), (crf_R e200), trivial, trivial⟩ (tX11_third x1 v196 h r196 e201) (fun r201 => ?_)
        refine j_aload_n (i := 2) (pc' := 775) dL_law_774 rfl rfl 2 rfl ?_
        refine j_aload_n (i := 0) (pc' := 776) dL_law_775 rfl rfl 0 rfl ?_
        refine j_iload_n (i := 3) (pc' := 777) dL_law_776 rfl rfl 3 rfl ?_
        refine j_iconst (pc' := 778) dL_law_777 rfl ?_
        refine j_iadd (pc' := 779) dL_law_778 rfl ?_
        obtain ⟨v202, e202, H⟩ := bs H
        refine j_scld hL (pc' := 780) dL_law_779 rfl e202 (fun r202 => ?_)
        obtain ⟨u203, e203, H⟩ := bs H
        obtain ⟨p204, e204, H⟩ := bs H
        refine j_cVl (y := yX12_third) (dY := 6) (vs := [vi v202]) (st := [vl p201.1]) (q := x2) (pc' := 783) dL_law_780 rfl ymX12_third yvX12_third ml_L_99 (by decide) rfl (Nat.le_of_ble_eq_true rfl) (Nat.le_of_ble_eq_true rfl) e203 (tX12_third x2 v202 p201.2 r202 e204) (fun r204 z204 => ?_)
        refine j_lcmp (pc' := 784) dL_law_783 rfl r201 r204 ?_
        refine j_if_eq (tgt := 1223) (pc' := 787) dL_law_784 (by decide) rfl (R32_lcmp _ _) (fun c205 => ?_) (fun c205 => ?_)
        · rw [if_pos c205] at H
          exact tL_law_1223 (n := n) hL _ ih 1000000 x1 x2 x3 p204.2 rx3 H
        · rw [if_neg c205] at H
          refine j_sub (lv' := []) [] rfl ?_
          refine j_rc (rc2 := 0) (rs2 := 0) (by omega) (by omega) ?_
          exact tL_law_787 hL   p204.2  H
      rw [if_neg c195] at H
      by_cases c206 : (bAnd v4 63) = 19
      · rw [if_pos c206] at H
        refine j_tabIn (tgt := 789) (off := 757) dL_law_32 (R32_to _) (by omega) (by omega) (by rw [c206]; rfl) (by decide) ?_
        refine j_aload_n (i := 1) (pc' := 790) dL_law_789 rfl rfl 1 rfl ?_
        obtain ⟨u207, e207, H⟩ := bs H
        obtain ⟨p208, e208, H⟩ := bs H
        refine j_cVl (y := yX11_thirds) (dY := 6) (vs := []) (st := []) (q := x1) (pc' := 793) dL_law_790 rfl ymX11_thirds yvX11_thirds ml_L_100 (by decide) rfl (Nat.le_of_ble_eq_true rfl) (Nat.le_of_ble_eq_true rfl) e207 (tX11_thirds x1 h e208) (fun r208 z208 => ?_)
        refine j_aload_n (i := 2) (pc' := 794) dL_law_793 rfl rfl 2 rfl ?_
        obtain ⟨u209, e209, H⟩ := bs H
        obtain ⟨p210, e210, H⟩ := bs H
        refine j_cVl (y := yX12_thirds) (dY := 26) (vs := []) (st := [vl p208.1]) (q := x2) (pc' := 797) dL_law_794 rfl ymX12_thirds yvX12_thirds ml_L_104 (by decide) rfl (Nat.le_of_ble_eq_true rfl) (Nat.le_of_ble_eq_true rfl) e209 (tX12_thirds x2 p208.2 e210) (fun r210 z210 => ?_)
        refine j_lcmp (pc' := 798) dL_law_797 rfl r208 r210 ?_
        refine j_if_eq (tgt := 1223) (pc' := 801) dL_law_798 (by decide) rfl (R32_lcmp _ _) (fun c211 => ?_) (fun c211 => ?_)
        · rw [if_pos c211] at H
          refine j_rc (rc2 := (8 * n)) (rs2 := (515 * n)) (by omega) (by omega) ?_
          exact tL_law_1223 (n := n) hL _ ih 1000000 x1 x2 x3 p210.2 rx3 H
        · rw [if_neg c211] at H
          refine j_sub (lv' := []) [] rfl ?_
          refine j_rc (rc2 := 0) (rs2 := 0) (by omega) (by omega) ?_
          exact tL_law_801 hL   p210.2  H
      rw [if_neg c206] at H
      by_cases c212 : (bAnd v4 63) = 20
      · rw [if_pos c212] at H
        refine j_tabIn (tgt := 803) (off := 771) dL_law_32 (R32_to _) (by omega) (by omega) (by rw [c212]; rfl) (by decide) ?_
        refine j_aload_n (i := 1) (pc' := 804) dL_law_803 rfl rfl 1 rfl ?_
        obtain ⟨u213, e213, H⟩ := bs H
        obtain ⟨p214, e214, H⟩ := bs H
        refine j_cVi (y := yX11_rounds) (dY := 4) (vs := []) (st := []) (q := x1) (pc' := 807) dL_law_804 rfl ymX11_rounds yvX11_rounds ml_L_105 (by decide) rfl (Nat.le_of_ble_eq_true rfl) (Nat.le_of_ble_eq_true rfl) e213 (tX11_rounds x1 h e214) (fun r214 z214 => ?_)
        refine j_aload_n (i := 2) (pc' := 808) dL_law_807 rfl rfl 2 rfl ?_
        obtain ⟨u215, e215, H⟩ := bs H
        obtain ⟨p216, e216, H⟩ := bs H
        refine j_cVi (y := yX12_rounds) (dY := 2) (vs := []) (st := [vi p214.1]) (q := x2) (pc' := 811) dL_law_808 rfl ymX12_rounds yvX12_rounds ml_L_108 (by decide) rfl (Nat.le_of_ble_eq_true rfl) (Nat.le_of_ble_eq_true rfl) e215 (tX12_rounds x2 p214.2 e216) (fun r216 z216 => ?_)
        refine j_icmp_eq (tgt := 1223) (pc' := 814) dL_law_811 (by decide) rfl r214 r216 (fun c217 => ?_) (fun c217 => ?_)
        · rw [if_pos c217] at H
          refine j_rc (rc2 := (8 * n)) (rs2 := (515 * n)) (by omega) (by omega) ?_
          exact tL_law_1223 (n := n) hL _ ih 1000000 x1 x2 x3 p216.2 rx3 H
        · rw [if_neg c217] at H
          refine j_sub (lv' := []) [] rfl ?_
          refine j_rc (rc2 := 0) (rs2 := 0) (by omega) (by omega) ?_
          exact tL_law_814 hL   p216.2  H
      rw [if_neg c212] at H
      by_cases c218 : (bAnd v4 63) = 21
      · rw [if_pos c218] at H
        refine j_tabIn (tgt := 816) (off := 784) dL_law_32 (R32_to _) (by omega) (by omega) (by rw [c218]; rfl) (by decide) ?_
        refine j_aload_n (i := 1) (pc' := 817) dL_law_816 rfl rfl 1 rfl ?_
        refine j_aload_n (i := 0) (pc' := 818) dL_law_817 rfl rfl 0 rfl ?_
        refine j_iload_n (i := 3) (pc' := 819) dL_law_818 rfl rfl 3 rfl ?_
        refine j_iconst (pc' := 820) dL_law_819 rfl ?_
        refine j_iadd (pc' := 821) dL_law_820 rfl ?_
        obtain ⟨v219, e219, H⟩ := bs H
        refine j_scld hL (pc' := 822) dL_law_821 rfl e219 (fun r219 => ?_)
        obtain ⟨u220, e220, H⟩ := bs H
        obtain ⟨p221, e221, H⟩ := bs H
        refine j_cVi (y := yX11_tree) (dY := 4) (vs := [vi v219]) (st := []) (q := x1) (pc' := 825) dL_law_822 rfl ymX11_tree yvX11_tree ml_L_109 (by decide) rfl (Nat.le_of_ble_eq_true rfl) (Nat.le_of_ble_eq_true rfl) e220 (tX11_tree x1 v219 h r219 e221) (fun r221 z221 => ?_)
        refine j_aload_n (i := 2) (pc' := 826) dL_law_825 rfl rfl 2 rfl ?_
        refine j_aload_n (i := 0) (pc' := 827) dL_law_826 rfl rfl 0 rfl ?_
        refine j_iload_n (i := 3) (pc' := 828) dL_law_827 rfl rfl 3 rfl ?_
        refine j_iconst (pc' := 829) dL_law_828 rfl ?_
        refine j_iadd (pc' := 830) dL_law_829 rfl ?_
        obtain ⟨v222, e222, H⟩ := bs H
        refine j_scld hL (pc' := 831) dL_law_830 rfl e222 (fun r222 => ?_)
        obtain ⟨u223, e223, H⟩ := bs H
        obtain ⟨p224, e224, H⟩ := bs H
        refine j_cVi (y := yX12_tree) (dY := 3) (vs := [vi v222]) (st := [vi p221.1]) (q := x2) (pc' := 834) dL_law_831 rfl ymX12_tree yvX12_tree ml_L_112 (by decide) rfl (Nat.le_of_ble_eq_true rfl) (Nat.le_of_ble_eq_true rfl) e223 (tX12_tree x2 v222 p221.2 r222 e224) (fun r224 z224 => ?_)
        refine j_icmp_eq (tgt := 1223) (pc' := 837) dL_law_834 (by decide) rfl r221 r224 (fun c225 => ?_) (fun c225 => ?_)
        · rw [if_pos c225] at H
          refine j_rc (rc2 := (8 * n)) (rs2 := (515 * n)) (by omega) (by omega) ?_
          exact tL_law_1223 (n := n) hL _ ih 1000000 x1 x2 x3 p224.2 rx3 H
        · rw [if_neg c225] at H
          refine j_sub (lv' := []) [] rfl ?_
          refine j_rc (rc2 := 0) (rs2 := 0) (by omega) (by omega) ?_
          exact tL_law_837 hL   p224.2  H
      rw [if_neg c218] at H
      by_cases c226 : (bAnd v4 63) = 22
      · rw [if_pos c226] at H
        refine j_tabIn (tgt := 839) (off := 807) dL_law_32 (R32_to _) (by omega) (by omega) (by rw [c226]; rfl) (by decide) ?_
        refine j_aload_n (i := 1) (pc' := 840) dL_law_839 rfl rfl 1 rfl ?_
        refine j_aload_n (i := 0) (pc' := 841) dL_law_840 rfl rfl 0 rfl ?_
        refine j_iload_n (i := 3) (pc' := 842) dL_law_841 rfl rfl 3 rfl ?_
        refine j_iconst (pc' := 843) dL_law_842 rfl ?_
        refine j_iadd (pc' := 844) dL_law_843 rfl ?_
        obtain ⟨v227, e227, H⟩ := bs H
        refine j_scld hL (pc' := 845) dL_law_844 rfl e227 (fun r227 => ?_)
        refine j_aload_n (i := 0) (pc' := 846) dL_law_845 rfl rfl 0 rfl ?_
        refine j_iload_n (i := 3) (pc' := 847) dL_law_846 rfl rfl 3 rfl ?_
        refine j_iconst (pc' := 848) dL_law_847 rfl ?_
        refine j_iadd (pc' := 849) dL_law_848 rfl ?_
        obtain ⟨v228, e228, H⟩ := bs H
        refine j_scld hL (pc' := 850) dL_law_849 rfl e228 (fun r228 => ?_)
        obtain ⟨u229, e229, H⟩ := bs H
        obtain ⟨p230, e230, H⟩ := bs H
        refine j_cVi (y := yX11_joined) (dY := 2) (vs := [vi v227, vi v228]) (st := []) (q := x1) (pc' := 853) dL_law_850 rfl ymX11_joined yvX11_joined ml_L_113 (by decide) rfl (Nat.le_of_ble_eq_true rfl) (Nat.le_of_ble_eq_true rfl) e229 (tX11_joined x1 v227 v228 h r227 r228 e230) (fun r230 z230 => ?_)
        refine j_aload_n (i := 2) (pc' := 854) dL_law_853 rfl rfl 2 rfl ?_
        refine j_aload_n (i := 0) (pc' := 855) dL_law_854 rfl rfl 0 rfl ?_
        refine j_iload_n (i := 3) (pc' := 856) dL_law_855 rfl rfl 3 rfl ?_
        refine j_iconst (pc' := 857) dL_law_856 rfl ?_
        refine j_iadd (pc' := 858) dL_law_857 rfl ?_
        obtain ⟨v231, e231, H⟩ := bs H
        refine j_scld hL (pc' := 859) dL_law_858 rfl e231 (fun r231 => ?_)
        refine j_aload_n (i := 0) (pc' := 860) dL_law_859 rfl rfl 0 rfl ?_
        refine j_iload_n (i := 3) (pc' := 861) dL_law_860 rfl rfl 3 rfl ?_
        refine j_iconst (pc' := 862) dL_law_861 rfl ?_
        refine j_iadd (pc' := 863) dL_law_862 rfl ?_
        obtain ⟨v232, e232, H⟩ := bs H
        refine j_scld hL (pc' := 864) dL_law_863 rfl e232 (fun r232 => ?_)
        obtain ⟨u233, e233, H⟩ := bs H
        obtain ⟨p234, e234, H⟩ := bs H
        refine j_cVi (y := yX12_joined) (dY := 2) (vs := [vi v231, vi v232]) (st := [vi p230.1]) (q := x2) (pc' := 867) dL_law_864 rfl ymX12_joined yvX12_joined ml_L_116 (by decide) rfl (Nat.le_of_ble_eq_true rfl) (Nat.le_of_ble_eq_true rfl) e233 (tX12_joined x2 v231 v232 p230.2 r231 r232 e234) (fun r234 z234 => ?_)
        refine j_icmp_eq (tgt := 1223) (pc' := 870) dL_law_867 (by decide) rfl r230 r234 (fun c235 => ?_) (fun c235 => ?_)
        · rw [if_pos c235] at H
          refine j_rc (rc2 := (8 * n)) (rs2 := (515 * n)) (by omega) (by omega) ?_
          exact tL_law_1223 (n := n) hL _ ih 1000000 x1 x2 x3 p234.2 rx3 H
        · rw [if_neg c235] at H
          refine j_sub (lv' := []) [] rfl ?_
          refine j_rc (rc2 := 0) (rs2 := 0) (by omega) (by omega) ?_
          exact tL_law_870 hL   p234.2  H
      rw [if_neg c226] at H
      by_cases c236 : (bAnd v4 63) = 23
      · rw [if_pos c236] at H
        refine j_tabIn (tgt := 872) (off := 840) dL_law_32 (R32_to _) (by omega) (by omega) (by rw [c236]; rfl) (by decide) ?_
        refine j_aload_n (i := 1) (pc' := 873) dL_law_872 rfl rfl 1 rfl ?_
        refine j_aload_n (i := 0) (pc' := 874) dL_law_873 rfl rfl 0 rfl ?_
        refine j_iload_n (i := 3) (pc' := 875) dL_law_874 rfl rfl 3 rfl ?_
        refine j_iconst (pc' := 876) dL_law_875 rfl ?_
        refine j_iadd (pc' := 877) dL_law_876 rfl ?_
        obtain ⟨v237, e237, H⟩ := bs H
        refine j_scld hL (pc' := 878) dL_law_877 rfl e237 (fun r237 => ?_)
        refine j_aload_n (i := 0) (pc' := 879) dL_law_878 rfl rfl 0 rfl ?_
        refine j_iload_n (i := 3) (pc' := 880) dL_law_879 rfl rfl 3 rfl ?_
        refine j_iconst (pc' := 881) dL_law_880 rfl ?_
        refine j_iadd (pc' := 882) dL_law_881 rfl ?_
        obtain ⟨v238, e238, H⟩ := bs H
        refine j_scld hL (pc' := 883) dL_law_882 rfl e238 (fun r238 => ?_)
        obtain ⟨u239, e239, H⟩ := bs H
        obtain ⟨p240, e240, H⟩ := bs H
        refine j_cVi (y := yX11_height) (dY := 2) (vs := [vi v237, vi v238]) (st := []) (q := x1) (pc' := 886) dL_law_883 rfl ymX11_height yvX11_height ml_L_117 (by decide) rfl (Nat.le_of_ble_eq_true rfl) (Nat.le_of_ble_eq_true rfl) e239 (tX11_height x1 v237 v238 h r237 r238 e240) (fun r240 z240 => ?_)
        refine j_aload_n (i := 2) (pc' := 887) dL_law_886 rfl rfl 2 rfl ?_
        refine j_aload_n (i := 0) (pc' := 888) dL_law_887 rfl rfl 0 rfl ?_
        refine j_iload_n (i := 3) (pc' := 889) dL_law_888 rfl rfl 3 rfl ?_
        refine j_iconst (pc' := 890) dL_law_889 rfl ?_
        refine j_iadd (pc' := 891) dL_law_890 rfl ?_
        obtain ⟨v241, e241, H⟩ := bs H
        refine j_scld hL (pc' := 892) dL_law_891 rfl e241 (fun r241 => ?_)
        refine j_aload_n (i := 0) (pc' := 893) dL_law_892 rfl rfl 0 rfl ?_
        refine j_iload_n (i := 3) (pc' := 894) dL_law_893 rfl rfl 3 rfl ?_
        refine j_iconst (pc' := 895) dL_law_894 rfl ?_
        refine j_iadd (pc' := 896) dL_law_895 rfl ?_
        obtain ⟨v242, e242, H⟩ := bs H
        refine j_scld hL (pc' := 897) dL_law_896 rfl e242 (fun r242 => ?_)
        obtain ⟨u243, e243, H⟩ := bs H
        obtain ⟨p244, e244, H⟩ := bs H
        refine j_cVi (y := yX12_height) (dY := 3) (vs := [vi v241, vi v242]) (st := [vi p240.1]) (q := x2) (pc' := 900) dL_law_897 rfl ymX12_height yvX12_height ml_L_120 (by decide) rfl (Nat.le_of_ble_eq_true rfl) (Nat.le_of_ble_eq_true rfl) e243 (tX12_height x2 v241 v242 p240.2 r241 r242 e244) (fun r244 z244 => ?_)
        refine j_icmp_eq (tgt := 1223) (pc' := 903) dL_law_900 (by decide) rfl r240 r244 (fun c245 => ?_) (fun c245 => ?_)
        · rw [if_pos c245] at H
          refine j_rc (rc2 := (8 * n)) (rs2 := (515 * n)) (by omega) (by omega) ?_
          exact tL_law_1223 (n := n) hL _ ih 1000000 x1 x2 x3 p244.2 rx3 H
        · rw [if_neg c245] at H
          refine j_sub (lv' := []) [] rfl ?_
          refine j_rc (rc2 := 0) (rs2 := 0) (by omega) (by omega) ?_
          exact tL_law_903 hL   p244.2  H
      rw [if_neg c236] at H
      by_cases c246 : (bAnd v4 63) = 24
      · rw [if_pos c246] at H
        refine j_tabIn (tgt := 905) (off := 873) dL_law_32 (R32_to _) (by omega) (by omega) (by rw [c246]; rfl) (by decide) ?_
        refine j_aload_n (i := 1) (pc' := 906) dL_law_905 rfl rfl 1 rfl ?_
        refine j_aload_n (i := 0) (pc' := 907) dL_law_906 rfl rfl 0 rfl ?_
        refine j_iload_n (i := 3) (pc' := 908) dL_law_907 rfl rfl 3 rfl ?_
        refine j_iconst (pc' := 909) dL_law_908 rfl ?_
        refine j_iadd (pc' := 910) dL_law_909 rfl ?_
        obtain ⟨v247, e247, H⟩ := bs H
        refine j_scld hL (pc' := 911) dL_law_910 rfl e247 (fun r247 => ?_)
        obtain ⟨u248, e248, H⟩ := bs H
        obtain ⟨u249, e249, H⟩ := bs H
        obtain ⟨u250, e250, H⟩ := bs H
        obtain ⟨u251, e251, H⟩ := bs H
        obtain ⟨p252, e252, H⟩ := bs H
        refine j_aVi (y := yX11_cut) (dY := 5) (vs := [vi v247]) (st := []) (q := x1) (mc := 8) (ms := 515) (rc := (8 * n)) (rs := (515 * n)) (pc' := 914) dL_law_911 rfl ymX11_cut yvX11_cut ml_L_121 (by decide) rfl (Nat.le_of_ble_eq_true rfl) (Nat.le_of_ble_eq_true rfl) e248 trivial ⟨(crf_R e249), (crf_R e250), (crf_R e251), trivial, trivial⟩ (tX11_cut x1 v247 h r247 e252) (fun r252 => ?_)
        refine j_aload_n (i := 2) (pc' := 915) dL_law_914 rfl rfl 2 rfl ?_
        refine j_aload_n (i := 0) (pc' := 916) dL_law_915 rfl rfl 0 rfl ?_
        refine j_iload_n (i := 3) (pc' := 917) dL_law_916 rfl rfl 3 rfl ?_
        refine j_iconst (pc' := 918) dL_law_917 rfl ?_
        refine j_iadd (pc' := 919) dL_law_918 rfl ?_
        obtain ⟨v253, e253, H⟩ := bs H
        refine j_scld hL (pc' := 920) dL_law_919 rfl e253 (fun r253 => ?_)
        obtain ⟨u254, e254, H⟩ := bs H
        obtain ⟨p255, e255, H⟩ := bs H
        refine j_cVi (y := yX12_cut) (dY := 3) (vs := [vi v253]) (st := [vi p252.1]) (q := x2) (pc' := 923) dL_law_920 rfl ymX12_cut yvX12_cut ml_L_124 (by decide) rfl (Nat.le_of_ble_eq_true rfl) (Nat.le_of_ble_eq_true rfl) e254 (tX12_cut x2 v253 p252.2 r253 e255) (fun r255 z255 => ?_)
        refine j_icmp_eq (tgt := 1223) (pc' := 926) dL_law_923 (by decide) rfl r252 r255 (fun c256 => ?_) (fun c256 => ?_)
        · rw [if_pos c256] at H
          exact tL_law_1223 (n := n) hL _ ih 1000000 x1 x2 x3 p255.2 rx3 H
        · rw [if_neg c256] at H
          refine j_sub (lv' := []) [] rfl ?_
          refine j_rc (rc2 := 0) (rs2 := 0) (by omega) (by omega) ?_
          exact tL_law_926 hL   p255.2  H
      rw [if_neg c246] at H
      by_cases c257 : (bAnd v4 63) = 25
      · rw [if_pos c257] at H
        refine j_tabIn (tgt := 928) (off := 896) dL_law_32 (R32_to _) (by omega) (by omega) (by rw [c257]; rfl) (by decide) ?_
        refine j_aload_n (i := 1) (pc' := 929) dL_law_928 rfl rfl 1 rfl ?_
        refine j_aload_n (i := 0) (pc' := 930) dL_law_929 rfl rfl 0 rfl ?_
        refine j_iload_n (i := 3) (pc' := 931) dL_law_930 rfl rfl 3 rfl ?_
        refine j_iconst (pc' := 932) dL_law_931 rfl ?_
        refine j_iadd (pc' := 933) dL_law_932 rfl ?_
        obtain ⟨v258, e258, H⟩ := bs H
        refine j_scld hL (pc' := 934) dL_law_933 rfl e258 (fun r258 => ?_)
        refine j_aload_n (i := 0) (pc' := 935) dL_law_934 rfl rfl 0 rfl ?_
        refine j_iload_n (i := 3) (pc' := 936) dL_law_935 rfl rfl 3 rfl ?_
        refine j_iconst (pc' := 937) dL_law_936 rfl ?_
        refine j_iadd (pc' := 938) dL_law_937 rfl ?_
        obtain ⟨v259, e259, H⟩ := bs H
        refine j_scld hL (pc' := 939) dL_law_938 rfl e259 (fun r259 => ?_)
        obtain ⟨u260, e260, H⟩ := bs H
        obtain ⟨p261, e261, H⟩ := bs H
        refine j_cVl (y := yX11_many) (dY := 3) (vs := [vi v258, vi v259]) (st := []) (q := x1) (pc' := 942) dL_law_939 rfl ymX11_many yvX11_many ml_L_125 (by decide) rfl (Nat.le_of_ble_eq_true rfl) (Nat.le_of_ble_eq_true rfl) e260 (tX11_many x1 v258 v259 h r258 r259 e261) (fun r261 z261 => ?_)
        refine j_aload_n (i := 2) (pc' := 943) dL_law_942 rfl rfl 2 rfl ?_
        refine j_aload_n (i := 0) (pc' := 944) dL_law_943 rfl rfl 0 rfl ?_
        refine j_iload_n (i := 3) (pc' := 945) dL_law_944 rfl rfl 3 rfl ?_
        refine j_iconst (pc' := 946) dL_law_945 rfl ?_
        refine j_iadd (pc' := 947) dL_law_946 rfl ?_
        obtain ⟨v262, e262, H⟩ := bs H
        refine j_scld hL (pc' := 948) dL_law_947 rfl e262 (fun r262 => ?_)
        refine j_aload_n (i := 0) (pc' := 949) dL_law_948 rfl rfl 0 rfl ?_
        refine j_iload_n (i := 3) (pc' := 950) dL_law_949 rfl rfl 3 rfl ?_
        refine j_iconst (pc' := 951) dL_law_950 rfl ?_
        refine j_iadd (pc' := 952) dL_law_951 rfl ?_
        obtain ⟨v263, e263, H⟩ := bs H
        refine j_scld hL (pc' := 953) dL_law_952 rfl e263 (fun r263 => ?_)
        obtain ⟨u264, e264, H⟩ := bs H
        obtain ⟨p265, e265, H⟩ := bs H
        refine j_cVl (y := yX12_many) (dY := 21) (vs := [vi v262, vi v263]) (st := [vl p261.1]) (q := x2) (pc' := 956) dL_law_953 rfl ymX12_many yvX12_many ml_L_128 (by decide) rfl (Nat.le_of_ble_eq_true rfl) (Nat.le_of_ble_eq_true rfl) e264 (tX12_many x2 v262 v263 p261.2 r262 r263 e265) (fun r265 z265 => ?_)
        refine j_lcmp (pc' := 957) dL_law_956 rfl r261 r265 ?_
        refine j_if_eq (tgt := 1223) (pc' := 960) dL_law_957 (by decide) rfl (R32_lcmp _ _) (fun c266 => ?_) (fun c266 => ?_)
        · rw [if_pos c266] at H
          refine j_rc (rc2 := (8 * n)) (rs2 := (515 * n)) (by omega) (by omega) ?_
          exact tL_law_1223 (n := n) hL _ ih 1000000 x1 x2 x3 p265.2 rx3 H
        · rw [if_neg c266] at H
          refine j_sub (lv' := []) [] rfl ?_
          refine j_rc (rc2 := 0) (rs2 := 0) (by omega) (by omega) ?_
          exact tL_law_960 hL   p265.2  H
      rw [if_neg c257] at H
      by_cases c267 : (bAnd v4 63) = 26
      · rw [if_pos c267] at H
        refine j_tabIn (tgt := 962) (off := 930) dL_law_32 (R32_to _) (by omega) (by omega) (by rw [c267]; rfl) (by decide) ?_
        refine j_aload_n (i := 1) (pc' := 963) dL_law_962 rfl rfl 1 rfl ?_
        obtain ⟨u268, e268, H⟩ := bs H
        obtain ⟨p269, e269, H⟩ := bs H
        refine j_cVl (y := yX11_rank) (dY := 2) (vs := []) (st := []) (q := x1) (pc' := 966) dL_law_963 rfl ymX11_rank yvX11_rank ml_L_129 (by decide) rfl (Nat.le_of_ble_eq_true rfl) (Nat.le_of_ble_eq_true rfl) e268 (tX11_rank x1 h e269) (fun r269 z269 => ?_)
        refine j_aload_n (i := 2) (pc' := 967) dL_law_966 rfl rfl 2 rfl ?_
        obtain ⟨u270, e270, H⟩ := bs H
        obtain ⟨p271, e271, H⟩ := bs H
        refine j_cVl (y := yX12_rank) (dY := 21) (vs := []) (st := [vl p269.1]) (q := x2) (pc' := 970) dL_law_967 rfl ymX12_rank yvX12_rank ml_L_132 (by decide) rfl (Nat.le_of_ble_eq_true rfl) (Nat.le_of_ble_eq_true rfl) e270 (tX12_rank x2 p269.2 e271) (fun r271 z271 => ?_)
        refine j_lcmp (pc' := 971) dL_law_970 rfl r269 r271 ?_
        refine j_if_eq (tgt := 1223) (pc' := 974) dL_law_971 (by decide) rfl (R32_lcmp _ _) (fun c272 => ?_) (fun c272 => ?_)
        · rw [if_pos c272] at H
          refine j_rc (rc2 := (8 * n)) (rs2 := (515 * n)) (by omega) (by omega) ?_
          exact tL_law_1223 (n := n) hL _ ih 1000000 x1 x2 x3 p271.2 rx3 H
        · rw [if_neg c272] at H
          refine j_sub (lv' := []) [] rfl ?_
          refine j_rc (rc2 := 0) (rs2 := 0) (by omega) (by omega) ?_
          exact tL_law_974 hL   p271.2  H
      rw [if_neg c267] at H
      by_cases c273 : (bAnd v4 63) = 27
      · rw [if_pos c273] at H
        refine j_tabIn (tgt := 976) (off := 944) dL_law_32 (R32_to _) (by omega) (by omega) (by rw [c273]; rfl) (by decide) ?_
        refine j_aload_n (i := 1) (pc' := 977) dL_law_976 rfl rfl 1 rfl ?_
        refine j_aload_n (i := 0) (pc' := 978) dL_law_977 rfl rfl 0 rfl ?_
        refine j_iload_n (i := 3) (pc' := 979) dL_law_978 rfl rfl 3 rfl ?_
        refine j_iconst (pc' := 980) dL_law_979 rfl ?_
        refine j_iadd (pc' := 981) dL_law_980 rfl ?_
        obtain ⟨v274, e274, H⟩ := bs H
        refine j_scld hL (pc' := 982) dL_law_981 rfl e274 (fun r274 => ?_)
        refine j_i2l (pc' := 983) dL_law_982 rfl r274 ?_
        refine j_bipush (pc' := 985) dL_law_983 rfl (by decide +kernel) ?_
        refine j_lshl (pc' := 986) dL_law_985 rfl ?_
        refine j_aload_n (i := 0) (pc' := 987) dL_law_986 rfl rfl 0 rfl ?_
        refine j_iload_n (i := 3) (pc' := 988) dL_law_987 rfl rfl 3 rfl ?_
        refine j_iconst (pc' := 989) dL_law_988 rfl ?_
        refine j_iadd (pc' := 990) dL_law_989 rfl ?_
        obtain ⟨v275, e275, H⟩ := bs H
        refine j_scld hL (pc' := 991) dL_law_990 rfl e275 (fun r275 => ?_)
        refine j_i2l (pc' := 992) dL_law_991 rfl r275 ?_
        refine j_ldc2 (z := 4294967295) (pc' := 995) dL_law_992 rfl kk_L_28 (by decide +kernel) ?_
        refine j_land (pc' := 996) dL_law_995 rfl ?_
        refine j_lor (pc' := 997) dL_law_996 rfl ?_
        obtain ⟨u276, e276, H⟩ := bs H
        obtain ⟨u277, e277, H⟩ := bs H
        obtain ⟨u278, e278, H⟩ := bs H
        obtain ⟨u279, e279, H⟩ := bs H
        obtain ⟨p280, e280, H⟩ := bs H
        refine j_aVb (y := yX11_of) (dY := 5) (vs := [vl (lOr (lShl v274 32) (lAnd v275 4294967295))]) (st := []) (q := x1) (mc := 8) (ms := 515) (rc := (8 * n)) (rs := (515 * n)) (pc' := 1000) dL_law_997 rfl ymX11_of yvX11_of ml_L_133 (by decide) rfl (Nat.le_of_ble_eq_true rfl) (Nat.le_of_ble_eq_true rfl) e276 trivial ⟨(crf_R e277), (crf_R e278), (crf_R e279), trivial, trivial⟩ (tX11_of x1 (lOr (lShl v274 32) (lAnd v275 4294967295)) h (R64_to _) e280) (fun r280 b280 => ?_)
        refine j_aload_n (i := 2) (pc' := 1001) dL_law_1000 rfl rfl 2 rfl ?_
        refine j_aload_n (i := 0) (pc' := 1002) dL_law_1001 rfl rfl 0 rfl ?_
        refine j_iload_n (i := 3) (pc' := 1003) dL_law_1002 rfl rfl 3 rfl ?_
        refine j_iconst (pc' := 1004) dL_law_1003 rfl ?_
        refine j_iadd (pc' := 1005) dL_law_1004 rfl ?_
        obtain ⟨v281, e281, H⟩ := bs H
        refine j_scld hL (pc' := 1006) dL_law_1005 rfl e281 (fun r281 => ?_)
        refine j_i2l (pc' := 1007) dL_law_1006 rfl r281 ?_
        refine j_bipush (pc' := 1009) dL_law_1007 rfl (by decide +kernel) ?_
        refine j_lshl (pc' := 1010) dL_law_1009 rfl ?_
        refine j_aload_n (i := 0) (pc' := 1011) dL_law_1010 rfl rfl 0 rfl ?_
        refine j_iload_n (i := 3) (pc' := 1012) dL_law_1011 rfl rfl 3 rfl ?_
        refine j_iconst (pc' := 1013) dL_law_1012 rfl ?_
        refine j_iadd (pc' := 1014) dL_law_1013 rfl ?_
        obtain ⟨v282, e282, H⟩ := bs H
        refine j_scld hL (pc' := 1015) dL_law_1014 rfl e282 (fun r282 => ?_)
        refine j_i2l (pc' := 1016) dL_law_1015 rfl r282 ?_
        refine j_ldc2 (z := 4294967295) (pc' := 1019) dL_law_1016 rfl kk_L_28 (by decide +kernel) ?_
        refine j_land (pc' := 1020) dL_law_1019 rfl ?_
        refine j_lor (pc' := 1021) dL_law_1020 rfl ?_
        obtain ⟨u283, e283, H⟩ := bs H
        obtain ⟨p284, e284, H⟩ := bs H
        refine j_cVb (y := yX12_of) (dY := 21) (vs := [vl (lOr (lShl v281 32) (lAnd v282 4294967295))]) (st := [vi p280.1]) (q := x2) (pc' := 1024) dL_law_1021 rfl ymX12_of yvX12_of ml_L_137 (by decide) rfl (Nat.le_of_ble_eq_true rfl) (Nat.le_of_ble_eq_true rfl) e283 (tX12_of x2 (lOr (lShl v281 32) (lAnd v282 4294967295)) p280.2 (R64_to _) e284) (fun r284 b284 z284 => ?_)
        refine j_icmp_eq (tgt := 1223) (pc' := 1027) dL_law_1024 (by decide) rfl r280 r284 (fun c285 => ?_) (fun c285 => ?_)
        · rw [if_pos c285] at H
          exact tL_law_1223 (n := n) hL _ ih 1000000 x1 x2 x3 p284.2 rx3 H
        · rw [if_neg c285] at H
          refine j_sub (lv' := []) [] rfl ?_
          refine j_rc (rc2 := 0) (rs2 := 0) (by omega) (by omega) ?_
          exact tL_law_1027 hL   p284.2  H
      rw [if_neg c273] at H
      by_cases c286 : (bAnd v4 63) = 28
      · rw [if_pos c286] at H
        refine j_tabIn (tgt := 1029) (off := 997) dL_law_32 (R32_to _) (by omega) (by omega) (by rw [c286]; rfl) (by decide) ?_
        refine j_aload_n (i := 1) (pc' := 1030) dL_law_1029 rfl rfl 1 rfl ?_
        refine j_aload_n (i := 0) (pc' := 1031) dL_law_1030 rfl rfl 0 rfl ?_
        refine j_iload_n (i := 3) (pc' := 1032) dL_law_1031 rfl rfl 3 rfl ?_
        refine j_iconst (pc' := 1033) dL_law_1032 rfl ?_
        refine j_iadd (pc' := 1034) dL_law_1033 rfl ?_
        obtain ⟨v287, e287, H⟩ := bs H
        refine j_scld hL (pc' := 1035) dL_law_1034 rfl e287 (fun r287 => ?_)
        obtain ⟨u288, e288, H⟩ := bs H
        obtain ⟨p289, e289, H⟩ := bs H
        refine j_cVb (y := yX11_keep) (dY := 2) (vs := [vi v287]) (st := []) (q := x1) (pc' := 1038) dL_law_1035 rfl ymX11_keep yvX11_keep ml_L_138 (by decide) rfl (Nat.le_of_ble_eq_true rfl) (Nat.le_of_ble_eq_true rfl) e288 (tX11_keep x1 v287 h r287 e289) (fun r289 b289 z289 => ?_)
        refine j_aload_n (i := 2) (pc' := 1039) dL_law_1038 rfl rfl 2 rfl ?_
        refine j_aload_n (i := 0) (pc' := 1040) dL_law_1039 rfl rfl 0 rfl ?_
        refine j_iload_n (i := 3) (pc' := 1041) dL_law_1040 rfl rfl 3 rfl ?_
        refine j_iconst (pc' := 1042) dL_law_1041 rfl ?_
        refine j_iadd (pc' := 1043) dL_law_1042 rfl ?_
        obtain ⟨v290, e290, H⟩ := bs H
        refine j_scld hL (pc' := 1044) dL_law_1043 rfl e290 (fun r290 => ?_)
        obtain ⟨u291, e291, H⟩ := bs H
        obtain ⟨p292, e292, H⟩ := bs H
        refine j_cVb (y := yX12_keep) (dY := 2) (vs := [vi v290]) (st := [vi p289.1]) (q := x2) (pc' := 1047) dL_law_1044 rfl ymX12_keep yvX12_keep ml_L_141 (by decide) rfl (Nat.le_of_ble_eq_true rfl) (Nat.le_of_ble_eq_true rfl) e291 (tX12_keep x2 v290 p289.2 r290 e292) (fun r292 b292 z292 => ?_)
        refine j_icmp_eq (tgt := 1223) (pc' := 1050) dL_law_1047 (by decide) rfl r289 r292 (fun c293 => ?_) (fun c293 => ?_)
        · rw [if_pos c293] at H
          refine j_rc (rc2 := (8 * n)) (rs2 := (515 * n)) (by omega) (by omega) ?_
          exact tL_law_1223 (n := n) hL _ ih 1000000 x1 x2 x3 p292.2 rx3 H
        · rw [if_neg c293] at H
          refine j_sub (lv' := []) [] rfl ?_
          refine j_rc (rc2 := 0) (rs2 := 0) (by omega) (by omega) ?_
          exact tL_law_1050 hL   p292.2  H
      rw [if_neg c286] at H
      by_cases c294 : (bAnd v4 63) = 29
      · rw [if_pos c294] at H
        refine j_tabIn (tgt := 1052) (off := 1020) dL_law_32 (R32_to _) (by omega) (by omega) (by rw [c294]; rfl) (by decide) ?_
        refine j_aload_n (i := 1) (pc' := 1053) dL_law_1052 rfl rfl 1 rfl ?_
        refine j_aload_n (i := 0) (pc' := 1054) dL_law_1053 rfl rfl 0 rfl ?_
        refine j_iload_n (i := 3) (pc' := 1055) dL_law_1054 rfl rfl 3 rfl ?_
        refine j_iconst (pc' := 1056) dL_law_1055 rfl ?_
        refine j_iadd (pc' := 1057) dL_law_1056 rfl ?_
        obtain ⟨v295, e295, H⟩ := bs H
        refine j_scld hL (pc' := 1058) dL_law_1057 rfl e295 (fun r295 => ?_)
        obtain ⟨u296, e296, H⟩ := bs H
        obtain ⟨p297, e297, H⟩ := bs H
        refine j_cVi (y := yX11_differ) (dY := 2) (vs := [vi v295]) (st := []) (q := x1) (pc' := 1061) dL_law_1058 rfl ymX11_differ yvX11_differ ml_L_142 (by decide) rfl (Nat.le_of_ble_eq_true rfl) (Nat.le_of_ble_eq_true rfl) e296 (tX11_differ x1 v295 h r295 e297) (fun r297 z297 => ?_)
        refine j_aload_n (i := 2) (pc' := 1062) dL_law_1061 rfl rfl 2 rfl ?_
        refine j_aload_n (i := 0) (pc' := 1063) dL_law_1062 rfl rfl 0 rfl ?_
        refine j_iload_n (i := 3) (pc' := 1064) dL_law_1063 rfl rfl 3 rfl ?_
        refine j_iconst (pc' := 1065) dL_law_1064 rfl ?_
        refine j_iadd (pc' := 1066) dL_law_1065 rfl ?_
        obtain ⟨v298, e298, H⟩ := bs H
        refine j_scld hL (pc' := 1067) dL_law_1066 rfl e298 (fun r298 => ?_)
        obtain ⟨u299, e299, H⟩ := bs H
        obtain ⟨p300, e300, H⟩ := bs H
        refine j_cVi (y := yX12_differ) (dY := 3) (vs := [vi v298]) (st := [vi p297.1]) (q := x2) (pc' := 1070) dL_law_1067 rfl ymX12_differ yvX12_differ ml_L_145 (by decide) rfl (Nat.le_of_ble_eq_true rfl) (Nat.le_of_ble_eq_true rfl) e299 (tX12_differ x2 v298 p297.2 r298 e300) (fun r300 z300 => ?_)
        refine j_icmp_eq (tgt := 1223) (pc' := 1073) dL_law_1070 (by decide) rfl r297 r300 (fun c301 => ?_) (fun c301 => ?_)
        · rw [if_pos c301] at H
          refine j_rc (rc2 := (8 * n)) (rs2 := (515 * n)) (by omega) (by omega) ?_
          exact tL_law_1223 (n := n) hL _ ih 1000000 x1 x2 x3 p300.2 rx3 H
        · rw [if_neg c301] at H
          refine j_sub (lv' := []) [] rfl ?_
          refine j_rc (rc2 := 0) (rs2 := 0) (by omega) (by omega) ?_
          exact tL_law_1073 hL   p300.2  H
      rw [if_neg c294] at H
      by_cases c302 : (bAnd v4 63) = 30
      · rw [if_pos c302] at H
        refine j_tabIn (tgt := 1075) (off := 1043) dL_law_32 (R32_to _) (by omega) (by omega) (by rw [c302]; rfl) (by decide) ?_
        refine j_aload_n (i := 1) (pc' := 1076) dL_law_1075 rfl rfl 1 rfl ?_
        refine j_aload_n (i := 0) (pc' := 1077) dL_law_1076 rfl rfl 0 rfl ?_
        refine j_iload_n (i := 3) (pc' := 1078) dL_law_1077 rfl rfl 3 rfl ?_
        refine j_iconst (pc' := 1079) dL_law_1078 rfl ?_
        refine j_iadd (pc' := 1080) dL_law_1079 rfl ?_
        obtain ⟨v303, e303, H⟩ := bs H
        refine j_scld hL (pc' := 1081) dL_law_1080 rfl e303 (fun r303 => ?_)
        obtain ⟨u304, e304, H⟩ := bs H
        obtain ⟨u305, e305, H⟩ := bs H
        obtain ⟨u306, e306, H⟩ := bs H
        obtain ⟨u307, e307, H⟩ := bs H
        obtain ⟨p308, e308, H⟩ := bs H
        refine j_aVi (y := yX11_both) (dY := 5) (vs := [vi v303]) (st := []) (q := x1) (mc := 8) (ms := 515) (rc := (8 * n)) (rs := (515 * n)) (pc' := 1084) dL_law_1081 rfl ymX11_both yvX11_both ml_L_146 (by decide) rfl (Nat.le_of_ble_eq_true rfl) (Nat.le_of_ble_eq_true rfl) e304 trivial ⟨(crf_R e305), (crf_R e306), (crf_R e307), trivial, trivial⟩ (tX11_both x1 v303 h r303 e308) (fun r308 => ?_)
        refine j_aload_n (i := 2) (pc' := 1085) dL_law_1084 rfl rfl 2 rfl ?_
        refine j_aload_n (i := 0) (pc' := 1086) dL_law_1085 rfl rfl 0 rfl ?_
        refine j_iload_n (i := 3) (pc' := 1087) dL_law_1086 rfl rfl 3 rfl ?_
        refine j_iconst (pc' := 1088) dL_law_1087 rfl ?_
        refine j_iadd (pc' := 1089) dL_law_1088 rfl ?_
        obtain ⟨v309, e309, H⟩ := bs H
        refine j_scld hL (pc' := 1090) dL_law_1089 rfl e309 (fun r309 => ?_)
        obtain ⟨u310, e310, H⟩ := bs H
        obtain ⟨p311, e311, H⟩ := bs H
        refine j_cVi (y := yX12_both) (dY := 3) (vs := [vi v309]) (st := [vi p308.1]) (q := x2) (pc' := 1093) dL_law_1090 rfl ymX12_both yvX12_both ml_L_149 (by decide) rfl (Nat.le_of_ble_eq_true rfl) (Nat.le_of_ble_eq_true rfl) e310 (tX12_both x2 v309 p308.2 r309 e311) (fun r311 z311 => ?_)
        refine j_icmp_eq (tgt := 1223) (pc' := 1096) dL_law_1093 (by decide) rfl r308 r311 (fun c312 => ?_) (fun c312 => ?_)
        · rw [if_pos c312] at H
          exact tL_law_1223 (n := n) hL _ ih 1000000 x1 x2 x3 p311.2 rx3 H
        · rw [if_neg c312] at H
          refine j_sub (lv' := []) [] rfl ?_
          refine j_rc (rc2 := 0) (rs2 := 0) (by omega) (by omega) ?_
          exact tL_law_1096 hL   p311.2  H
      rw [if_neg c302] at H
      by_cases c313 : (bAnd v4 63) = 31
      · rw [if_pos c313] at H
        refine j_tabIn (tgt := 1098) (off := 1066) dL_law_32 (R32_to _) (by omega) (by omega) (by rw [c313]; rfl) (by decide) ?_
        refine j_aload_n (i := 1) (pc' := 1099) dL_law_1098 rfl rfl 1 rfl ?_
        refine j_aload_n (i := 0) (pc' := 1100) dL_law_1099 rfl rfl 0 rfl ?_
        refine j_iload_n (i := 3) (pc' := 1101) dL_law_1100 rfl rfl 3 rfl ?_
        refine j_iconst (pc' := 1102) dL_law_1101 rfl ?_
        refine j_iadd (pc' := 1103) dL_law_1102 rfl ?_
        obtain ⟨v314, e314, H⟩ := bs H
        refine j_scld hL (pc' := 1104) dL_law_1103 rfl e314 (fun r314 => ?_)
        obtain ⟨u315, e315, H⟩ := bs H
        obtain ⟨p316, e316, H⟩ := bs H
        refine j_cVi (y := yX11_tell) (dY := 2) (vs := [vi v314]) (st := []) (q := x1) (pc' := 1107) dL_law_1104 rfl ymX11_tell yvX11_tell ml_L_150 (by decide) rfl (Nat.le_of_ble_eq_true rfl) (Nat.le_of_ble_eq_true rfl) e315 (tX11_tell x1 v314 h r314 e316) (fun r316 z316 => ?_)
        refine j_aload_n (i := 2) (pc' := 1108) dL_law_1107 rfl rfl 2 rfl ?_
        refine j_aload_n (i := 0) (pc' := 1109) dL_law_1108 rfl rfl 0 rfl ?_
        refine j_iload_n (i := 3) (pc' := 1110) dL_law_1109 rfl rfl 3 rfl ?_
        refine j_iconst (pc' := 1111) dL_law_1110 rfl ?_
        refine j_iadd (pc' := 1112) dL_law_1111 rfl ?_
        obtain ⟨v317, e317, H⟩ := bs H
        refine j_scld hL (pc' := 1113) dL_law_1112 rfl e317 (fun r317 => ?_)
        obtain ⟨u318, e318, H⟩ := bs H
        obtain ⟨p319, e319, H⟩ := bs H
        refine j_cVi (y := yX12_tell) (dY := 2) (vs := [vi v317]) (st := [vi p316.1]) (q := x2) (pc' := 1116) dL_law_1113 rfl ymX12_tell yvX12_tell ml_L_153 (by decide) rfl (Nat.le_of_ble_eq_true rfl) (Nat.le_of_ble_eq_true rfl) e318 (tX12_tell x2 v317 p316.2 r317 e319) (fun r319 z319 => ?_)
        refine j_icmp_eq (tgt := 1223) (pc' := 1119) dL_law_1116 (by decide) rfl r316 r319 (fun c320 => ?_) (fun c320 => ?_)
        · rw [if_pos c320] at H
          refine j_rc (rc2 := (8 * n)) (rs2 := (515 * n)) (by omega) (by omega) ?_
          exact tL_law_1223 (n := n) hL _ ih 1000000 x1 x2 x3 p319.2 rx3 H
        · rw [if_neg c320] at H
          refine j_sub (lv' := []) [] rfl ?_
          refine j_rc (rc2 := 0) (rs2 := 0) (by omega) (by omega) ?_
          exact tL_law_1119 hL   p319.2  H
      rw [if_neg c313] at H
      by_cases c321 : (bAnd v4 63) = 32
      · rw [if_pos c321] at H
        refine j_tabIn (tgt := 1121) (off := 1089) dL_law_32 (R32_to _) (by omega) (by omega) (by rw [c321]; rfl) (by decide) ?_
        refine j_aload_n (i := 1) (pc' := 1122) dL_law_1121 rfl rfl 1 rfl ?_
        refine j_aload_n (i := 0) (pc' := 1123) dL_law_1122 rfl rfl 0 rfl ?_
        refine j_iload_n (i := 3) (pc' := 1124) dL_law_1123 rfl rfl 3 rfl ?_
        refine j_iconst (pc' := 1125) dL_law_1124 rfl ?_
        refine j_iadd (pc' := 1126) dL_law_1125 rfl ?_
        obtain ⟨v322, e322, H⟩ := bs H
        refine j_scld hL (pc' := 1127) dL_law_1126 rfl e322 (fun r322 => ?_)
        refine j_aload_n (i := 0) (pc' := 1128) dL_law_1127 rfl rfl 0 rfl ?_
        refine j_iload_n (i := 3) (pc' := 1129) dL_law_1128 rfl rfl 3 rfl ?_
        refine j_iconst (pc' := 1130) dL_law_1129 rfl ?_
        refine j_iadd (pc' := 1131) dL_law_1130 rfl ?_
        obtain ⟨v323, e323, H⟩ := bs H
        refine j_scld hL (pc' := 1132) dL_law_1131 rfl e323 (fun r323 => ?_)
        refine j_i2l (pc' := 1133) dL_law_1132 rfl r323 ?_
        refine j_bipush (pc' := 1135) dL_law_1133 rfl (by decide +kernel) ?_
        refine j_lshl (pc' := 1136) dL_law_1135 rfl ?_
        refine j_aload_n (i := 0) (pc' := 1137) dL_law_1136 rfl rfl 0 rfl ?_
        refine j_iload_n (i := 3) (pc' := 1138) dL_law_1137 rfl rfl 3 rfl ?_
        refine j_iconst (pc' := 1139) dL_law_1138 rfl ?_
        refine j_iadd (pc' := 1140) dL_law_1139 rfl ?_
        obtain ⟨v324, e324, H⟩ := bs H
        refine j_scld hL (pc' := 1141) dL_law_1140 rfl e324 (fun r324 => ?_)
        refine j_i2l (pc' := 1142) dL_law_1141 rfl r324 ?_
        refine j_ldc2 (z := 4294967295) (pc' := 1145) dL_law_1142 rfl kk_L_28 (by decide +kernel) ?_
        refine j_land (pc' := 1146) dL_law_1145 rfl ?_
        refine j_lor (pc' := 1147) dL_law_1146 rfl ?_
        obtain ⟨u325, e325, H⟩ := bs H
        obtain ⟨p326, e326, H⟩ := bs H
        refine j_cVi (y := yX11_check) (dY := 6) (vs := [vi v322, vl (lOr (lShl v323 32) (lAnd v324 4294967295))]) (st := []) (q := x1) (pc' := 1150) dL_law_1147 rfl ymX11_check yvX11_check ml_L_154 (by decide) rfl (Nat.le_of_ble_eq_true rfl) (Nat.le_of_ble_eq_true rfl) e325 (tX11_check x1 v322 (lOr (lShl v323 32) (lAnd v324 4294967295)) h r322 (R64_to _) e326) (fun r326 z326 => ?_)
        refine j_aload_n (i := 2) (pc' := 1151) dL_law_1150 rfl rfl 2 rfl ?_
        refine j_aload_n (i := 0) (pc' := 1152) dL_law_1151 rfl rfl 0 rfl ?_
        refine j_iload_n (i := 3) (pc' := 1153) dL_law_1152 rfl rfl 3 rfl ?_
        refine j_iconst (pc' := 1154) dL_law_1153 rfl ?_
        refine j_iadd (pc' := 1155) dL_law_1154 rfl ?_
        obtain ⟨v327, e327, H⟩ := bs H
        refine j_scld hL (pc' := 1156) dL_law_1155 rfl e327 (fun r327 => ?_)
        refine j_aload_n (i := 0) (pc' := 1157) dL_law_1156 rfl rfl 0 rfl ?_
        refine j_iload_n (i := 3) (pc' := 1158) dL_law_1157 rfl rfl 3 rfl ?_
        refine j_iconst (pc' := 1159) dL_law_1158 rfl ?_
        refine j_iadd (pc' := 1160) dL_law_1159 rfl ?_
        obtain ⟨v328, e328, H⟩ := bs H
        refine j_scld hL (pc' := 1161) dL_law_1160 rfl e328 (fun r328 => ?_)
        refine j_i2l (pc' := 1162) dL_law_1161 rfl r328 ?_
        refine j_bipush (pc' := 1164) dL_law_1162 rfl (by decide +kernel) ?_
        refine j_lshl (pc' := 1165) dL_law_1164 rfl ?_
        refine j_aload_n (i := 0) (pc' := 1166) dL_law_1165 rfl rfl 0 rfl ?_
        refine j_iload_n (i := 3) (pc' := 1167) dL_law_1166 rfl rfl 3 rfl ?_
        refine j_iconst (pc' := 1168) dL_law_1167 rfl ?_
        refine j_iadd (pc' := 1169) dL_law_1168 rfl ?_
        obtain ⟨v329, e329, H⟩ := bs H
        refine j_scld hL (pc' := 1170) dL_law_1169 rfl e329 (fun r329 => ?_)
        refine j_i2l (pc' := 1171) dL_law_1170 rfl r329 ?_
        refine j_ldc2 (z := 4294967295) (pc' := 1174) dL_law_1171 rfl kk_L_28 (by decide +kernel) ?_
        refine j_land (pc' := 1175) dL_law_1174 rfl ?_
        refine j_lor (pc' := 1176) dL_law_1175 rfl ?_
        obtain ⟨u330, e330, H⟩ := bs H
        obtain ⟨p331, e331, H⟩ := bs H
        refine j_cVi (y := yX12_check) (dY := 5) (vs := [vi v327, vl (lOr (lShl v328 32) (lAnd v329 4294967295))]) (st := [vi p326.1]) (q := x2) (pc' := 1179) dL_law_1176 rfl ymX12_check yvX12_check ml_L_158 (by decide) rfl (Nat.le_of_ble_eq_true rfl) (Nat.le_of_ble_eq_true rfl) e330 (tX12_check x2 v327 (lOr (lShl v328 32) (lAnd v329 4294967295)) p326.2 r327 (R64_to _) e331) (fun r331 z331 => ?_)
        refine j_icmp_eq (tgt := 1223) (pc' := 1182) dL_law_1179 (by decide) rfl r326 r331 (fun c332 => ?_) (fun c332 => ?_)
        · rw [if_pos c332] at H
          refine j_rc (rc2 := (8 * n)) (rs2 := (515 * n)) (by omega) (by omega) ?_
          exact tL_law_1223 (n := n) hL _ ih 1000000 x1 x2 x3 p331.2 rx3 H
        · rw [if_neg c332] at H
          refine j_sub (lv' := []) [] rfl ?_
          refine j_rc (rc2 := 0) (rs2 := 0) (by omega) (by omega) ?_
          exact tL_law_1182 hL   p331.2  H
      rw [if_neg c321] at H
      by_cases c333 : (bAnd v4 63) = 33
      · rw [if_pos c333] at H
        refine j_tabIn (tgt := 1184) (off := 1152) dL_law_32 (R32_to _) (by omega) (by omega) (by rw [c333]; rfl) (by decide) ?_
        refine j_aload_n (i := 1) (pc' := 1185) dL_law_1184 rfl rfl 1 rfl ?_
        obtain ⟨u334, e334, H⟩ := bs H
        obtain ⟨u335, e335, H⟩ := bs H
        obtain ⟨u336, e336, H⟩ := bs H
        obtain ⟨u337, e337, H⟩ := bs H
        obtain ⟨p338, e338, H⟩ := bs H
        refine j_aVi (y := yX11_load) (dY := 5) (vs := []) (st := []) (q := x1) (mc := 8) (ms := 515) (rc := (8 * n)) (rs := (515 * n)) (pc' := 1188) dL_law_1185 rfl ymX11_load yvX11_load ml_L_159 (by decide) rfl (Nat.le_of_ble_eq_true rfl) (Nat.le_of_ble_eq_true rfl) e334 trivial ⟨(crf_R e335), (crf_R e336), (crf_R e337), trivial, trivial⟩ (tX11_load x1 h e338) (fun r338 => ?_)
        refine j_aload_n (i := 2) (pc' := 1189) dL_law_1188 rfl rfl 2 rfl ?_
        obtain ⟨u339, e339, H⟩ := bs H
        obtain ⟨p340, e340, H⟩ := bs H
        refine j_cVi (y := yX12_load) (dY := 4) (vs := []) (st := [vi p338.1]) (q := x2) (pc' := 1192) dL_law_1189 rfl ymX12_load yvX12_load ml_L_162 (by decide) rfl (Nat.le_of_ble_eq_true rfl) (Nat.le_of_ble_eq_true rfl) e339 (tX12_load x2 p338.2 e340) (fun r340 z340 => ?_)
        refine j_icmp_eq (tgt := 1223) (pc' := 1195) dL_law_1192 (by decide) rfl r338 r340 (fun c341 => ?_) (fun c341 => ?_)
        · rw [if_pos c341] at H
          exact tL_law_1223 (n := n) hL _ ih 1000000 x1 x2 x3 p340.2 rx3 H
        · rw [if_neg c341] at H
          refine j_sub (lv' := []) [] rfl ?_
          refine j_rc (rc2 := 0) (rs2 := 0) (by omega) (by omega) ?_
          exact tL_law_1195 hL   p340.2  H
      rw [if_neg c333] at H
      by_cases c342 : (bAnd v4 63) = 34
      · rw [if_pos c342] at H
        refine j_tabIn (tgt := 1197) (off := 1165) dL_law_32 (R32_to _) (by omega) (by omega) (by rw [c342]; rfl) (by decide) ?_
        refine j_aload_n (i := 1) (pc' := 1198) dL_law_1197 rfl rfl 1 rfl ?_
        obtain ⟨u343, e343, H⟩ := bs H
        obtain ⟨p344, e344, H⟩ := bs H
        refine j_cVi (y := yX11_undo) (dY := 4) (vs := []) (st := []) (q := x1) (pc' := 1201) dL_law_1198 rfl ymX11_undo yvX11_undo ml_L_163 (by decide) rfl (Nat.le_of_ble_eq_true rfl) (Nat.le_of_ble_eq_true rfl) e343 (tX11_undo x1 h e344) (fun r344 z344 => ?_)
        refine j_aload_n (i := 2) (pc' := 1202) dL_law_1201 rfl rfl 2 rfl ?_
        obtain ⟨u345, e345, H⟩ := bs H
        obtain ⟨p346, e346, H⟩ := bs H
        refine j_cVi (y := yX12_undo) (dY := 2) (vs := []) (st := [vi p344.1]) (q := x2) (pc' := 1205) dL_law_1202 rfl ymX12_undo yvX12_undo ml_L_166 (by decide) rfl (Nat.le_of_ble_eq_true rfl) (Nat.le_of_ble_eq_true rfl) e345 (tX12_undo x2 p344.2 e346) (fun r346 z346 => ?_)
        refine j_icmp_eq (tgt := 1223) (pc' := 1208) dL_law_1205 (by decide) rfl r344 r346 (fun c347 => ?_) (fun c347 => ?_)
        · rw [if_pos c347] at H
          refine j_rc (rc2 := (8 * n)) (rs2 := (515 * n)) (by omega) (by omega) ?_
          exact tL_law_1223 (n := n) hL _ ih 1000000 x1 x2 x3 p346.2 rx3 H
        · rw [if_neg c347] at H
          refine j_sub (lv' := []) [] rfl ?_
          refine j_rc (rc2 := 0) (rs2 := 0) (by omega) (by omega) ?_
          exact tL_law_1208 hL   p346.2  H
      rw [if_neg c342] at H
      by_cases c348 : (bAnd v4 63) = 35
      · rw [if_pos c348] at H
        refine j_tabIn (tgt := 1210) (off := 1178) dL_law_32 (R32_to _) (by omega) (by omega) (by rw [c348]; rfl) (by decide) ?_
        refine j_aload_n (i := 1) (pc' := 1211) dL_law_1210 rfl rfl 1 rfl ?_
        obtain ⟨u349, e349, H⟩ := bs H
        obtain ⟨p350, e350, H⟩ := bs H
        refine j_cVi (y := yX11_fault) (dY := 1) (vs := []) (st := []) (q := x1) (pc' := 1214) dL_law_1211 rfl ymX11_fault yvX11_fault ml_L_167 (by decide) rfl (Nat.le_of_ble_eq_true rfl) (Nat.le_of_ble_eq_true rfl) e349 (tX11_fault x1 h e350) (fun r350 z350 => ?_)
        refine j_aload_n (i := 2) (pc' := 1215) dL_law_1214 rfl rfl 2 rfl ?_
        obtain ⟨u351, e351, H⟩ := bs H
        obtain ⟨p352, e352, H⟩ := bs H
        refine j_cVi (y := yX12_fault) (dY := 1) (vs := []) (st := [vi p350.1]) (q := x2) (pc' := 1218) dL_law_1215 rfl ymX12_fault yvX12_fault ml_L_170 (by decide) rfl (Nat.le_of_ble_eq_true rfl) (Nat.le_of_ble_eq_true rfl) e351 (tX12_fault x2 p350.2 e352) (fun r352 z352 => ?_)
        refine j_icmp_eq (tgt := 1223) (pc' := 1221) dL_law_1218 (by decide) rfl r350 r352 (fun c353 => ?_) (fun c353 => ?_)
        · rw [if_pos c353] at H
          refine j_rc (rc2 := (8 * n)) (rs2 := (515 * n)) (by omega) (by omega) ?_
          exact tL_law_1223 (n := n) hL _ ih 1000000 x1 x2 x3 p352.2 rx3 H
        · rw [if_neg c353] at H
          refine j_sub (lv' := []) [] rfl ?_
          refine j_rc (rc2 := 0) (rs2 := 0) (by omega) (by omega) ?_
          exact tL_law_1221 hL   p352.2  H
      rw [if_neg c348] at H
      refine j_tabOut (tgt := 1223) dL_law_32 (R32_to _) (by omega) (by decide) ?_
      refine j_rc (rc2 := (8 * n)) (rs2 := (515 * n)) (by omega) (by omega) ?_
      exact tL_law_1223 (n := n) hL _ ih 1000000 x1 x2 x3 h rx3 H
noncomputable def fL_law (L : Nat) (xs : Nat → Int32)  (h : Hp) : Option (Int × Hp) :=
  (crf h 1000000).bind fun _ => (newO h (obj 10 [vr 0, vr 0, vr 0, vr 0, vr 0, vr 0, vr 0, vr 0, vr 0, vr 0, vr 0, vi 0])).bind fun p2 => (cob p2.2 10 p2.1).bind fun _ => (crf p2.2 p2.1).bind fun _ => (crf p2.2 1000000).bind fun _ => (fX11_init p2.1 p2.2).bind fun h6 => (crf h6 1000000).bind fun _ => (crf h6 p2.1).bind fun _ => (newO h6 (obj 11 [vr 0, vr 0, vr 0, vr 0, vr 0, vr 0, vi 0, vi 0, vi 0, vi 0, vr 0, vi 0, vr 0, vr 0, vr 0, vr 0, vr 0, vr 0, vi 0, vi 0, vr 0, vr 0, vr 0, vr 0, vr 0])).bind fun p9 => (cob p9.2 11 p9.1).bind fun _ => (crf p9.2 p9.1).bind fun _ => (crf p9.2 1000000).bind fun _ => (crf p9.2 p2.1).bind fun _ => (fX12_init p9.1 p9.2).bind fun h14 => fL_law_18 L xs 513 1000000 p2.1 p9.1 0 h14
theorem tL_law {L : Nat} {xs : Nat → Int32} {l : Launch} {res : Int × Hp} (hL : L < 2147483648)  (h : Hp)  (H : fL_law L xs  h = some res) : J L xs l RL cL_law 4 false 27 (QB res) 4187 277399 0 (alv 0 [vr 1000000]) [] h := by
  unfold fL_law at H
  show J L xs l RL cL_law 4 false 27 (QB res) 4187 277399 0 [(0, vr 1000000)] [] h
  obtain ⟨u1, e1, H⟩ := bs H
  obtain ⟨p2, e2, H⟩ := bs H
  refine j_newp (rc := 4186) (rs := 277387) (pc' := 3) dL_law_0 rfl nl_L_7 trivial ⟨(crf_R e1), trivial⟩ e2 ?_
  refine j_dup (pc' := 4) dL_law_3 rfl rfl ?_
  obtain ⟨u3, e3, H⟩ := bs H
  obtain ⟨u4, e4, H⟩ := bs H
  obtain ⟨u5, e5, H⟩ := bs H
  obtain ⟨h6, e6, H⟩ := bs H
  refine j_aI (y := yX11_init) (dY := 4) (vs := []) (st := [vr p2.1]) (q := p2.1) (mc := 63) (ms := 2514) (rc := 4123) (rs := 274873) (pc' := 7) dL_law_4 rfl ymX11_init rfl yiX11_init ml_L_9 (by decide) rfl (Nat.le_of_ble_eq_true rfl) (Nat.le_of_ble_eq_true rfl) e3 ⟨(crf_R e4), trivial⟩ ⟨(crf_R e5), trivial⟩ (tX11_init p2.1 p2.2 e6) ?_
  refine j_astore_n (i := 1) (lv' := [(0, vr 1000000), (1, vr p2.1)]) (pc' := 8) dL_law_7 rfl rfl (by decide) [1, 0] rfl ?_
  obtain ⟨u7, e7, H⟩ := bs H
  obtain ⟨u8, e8, H⟩ := bs H
  obtain ⟨p9, e9, H⟩ := bs H
  refine j_newp (rc := 4122) (rs := 274848) (pc' := 11) dL_law_8 rfl nl_L_10 trivial ⟨(crf_R e7), (crf_R e8), trivial⟩ e9 ?_
  refine j_dup (pc' := 12) dL_law_11 rfl rfl ?_
  obtain ⟨u10, e10, H⟩ := bs H
  obtain ⟨u11, e11, H⟩ := bs H
  obtain ⟨u12, e12, H⟩ := bs H
  obtain ⟨u13, e13, H⟩ := bs H
  obtain ⟨h14, e14, H⟩ := bs H
  refine j_aI (y := yX12_init) (dY := 2) (vs := []) (st := [vr p9.1]) (q := p9.1) (mc := 18) (ms := 10653) (rc := 4104) (rs := 264195) (pc' := 15) dL_law_12 rfl ymX12_init rfl yiX12_init ml_L_12 (by decide) rfl (Nat.le_of_ble_eq_true rfl) (Nat.le_of_ble_eq_true rfl) e10 ⟨(crf_R e11), trivial⟩ ⟨(crf_R e12), (crf_R e13), trivial⟩ (tX12_init p9.1 p9.2 e14) ?_
  refine j_astore_n (i := 2) (lv' := [(0, vr 1000000), (1, vr p2.1), (2, vr p9.1)]) (pc' := 16) dL_law_15 rfl rfl (by decide) [1, 2, 0] rfl ?_
  refine j_iconst (pc' := 17) dL_law_16 rfl ?_
  refine j_istore_n (i := 3) (lv' := [(0, vr 1000000), (1, vr p2.1), (2, vr p9.1), (3, vi 0)]) (pc' := 18) dL_law_17 rfl rfl (by decide) [1, 2, 3, 0] rfl ?_
  exact tL_law_18 hL   513 1000000 p2.1 p9.1 0 h14 ⟨by decide, by decide⟩ H
