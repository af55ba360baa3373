-- X8_init
noncomputable def fX8_init (a0 : Nat) (a1 : Nat) (h : Hp) : Option (Hp) :=
  (cob h 7 a0).bind fun _ => (crf h a0).bind fun _ => (crf h a1).bind fun _ => (newO h (arr 1 512 (fun _ => 0))).bind fun p4 => (crf p4.2 p4.1).bind fun _ => (putV p4.2 7 a0 0 (vr p4.1)).bind fun h6 => (crf h6 a0).bind fun _ => (crf h6 a1).bind fun _ => (newO h6 (arr 0 12 (fun _ => 0))).bind fun p9 => (crf p9.2 p9.1).bind fun _ => (putV p9.2 7 a0 1 (vr p9.1)).bind fun h11 => (crf h11 a0).bind fun _ => (crf h11 a1).bind fun _ => (newO h11 (arr 0 12 (fun _ => 0))).bind fun p14 => (crf p14.2 p14.1).bind fun _ => (putV p14.2 7 a0 2 (vr p14.1)).bind fun h16 => (putV h16 7 a0 4 (vl 0)).bind fun h17 => (putV h17 7 a0 5 (vi 0)).bind fun h18 => (putV h18 7 a0 6 (vi 0)).bind fun h19 => (putV h19 7 a0 7 (vi 0)).bind fun h20 => (crf h20 a1).bind fun _ => (putV h20 7 a0 3 (vr a1)).bind fun h22 => some h22
theorem tX8_init {L : Nat} {xs : Nat → Int32} {l : Launch} {res : Hp} (a0 : Nat) (a1 : Nat) (h : Hp)  (H : fX8_init a0 a1 h = some res) : J L xs l RX8 cX8_init 2 true 1 (QV res) 3 536 0 (alv 0 [vr a0, vr a1]) [] h := by
  unfold fX8_init at H
  show J L xs l RX8 cX8_init 2 true 1 (QV res) 3 536 0 [(0, vr a0), (1, vr a1)] [] h
  refine j_aload_n (i := 0) (pc' := 1) dX8_init_0 rfl rfl 0 rfl ?_
  obtain ⟨u1, e1, H⟩ := bs H
  refine j_objInit (pc' := 4) dX8_init_1 rfl ml_X8_3 oi_1 oi_2 (by decide) e1 (Nat.le_of_ble_eq_true rfl) ?_
  refine j_aload_n (i := 0) (pc' := 5) dX8_init_4 rfl rfl 0 rfl ?_
  refine j_sipush (pc' := 8) dX8_init_5 rfl (by decide +kernel) ?_
  obtain ⟨u2, e2, H⟩ := bs H
  obtain ⟨u3, e3, H⟩ := bs H
  obtain ⟨p4, e4, H⟩ := bs H
  refine j_newLp (N := 512) (rc := 2) (rs := 24) (pc' := 10) rfl (by decide) dX8_init_8 rfl ak_long ⟨(crf_R e2), trivial⟩ ⟨(crf_R e2), (crf_R e3), trivial⟩ e4 ?_
  obtain ⟨u5, e5, H⟩ := bs H
  obtain ⟨h6, e6, H⟩ := bs H
  refine j_putF (pc' := 13) dX8_init_10 rfl rfl fp_X8_9 tR (crf_R e5) e6 ?_
  refine j_aload_n (i := 0) (pc' := 14) dX8_init_13 rfl rfl 0 rfl ?_
  refine j_bipush (pc' := 16) dX8_init_14 rfl (by decide +kernel) ?_
  obtain ⟨u7, e7, H⟩ := bs H
  obtain ⟨u8, e8, H⟩ := bs H
  obtain ⟨p9, e9, H⟩ := bs H
  refine j_newIp (N := 12) (rc := 1) (rs := 12) (pc' := 18) rfl (by decide) dX8_init_16 rfl ak_int ⟨(crf_R e7), trivial⟩ ⟨(crf_R e7), (crf_R e8), trivial⟩ e9 ?_
  obtain ⟨u10, e10, H⟩ := bs H
  obtain ⟨h11, e11, H⟩ := bs H
  refine j_putF (pc' := 21) dX8_init_18 rfl rfl fp_X8_15 tR (crf_R e10) e11 ?_
  refine j_aload_n (i := 0) (pc' := 22) dX8_init_21 rfl rfl 0 rfl ?_
  refine j_bipush (pc' := 24) dX8_init_22 rfl (by decide +kernel) ?_
  obtain ⟨u12, e12, H⟩ := bs H
  obtain ⟨u13, e13, H⟩ := bs H
  obtain ⟨p14, e14, H⟩ := bs H
  refine j_newIp (N := 12) (rc := 0) (rs := 0) (pc' := 26) rfl (by decide) dX8_init_24 rfl ak_int ⟨(crf_R e12), trivial⟩ ⟨(crf_R e12), (crf_R e13), trivial⟩ e14 ?_
  obtain ⟨u15, e15, H⟩ := bs H
  obtain ⟨h16, e16, H⟩ := bs H
  refine j_putF (pc' := 29) dX8_init_26 rfl rfl fp_X8_19 tR (crf_R e15) e16 ?_
  refine j_aload_n (i := 0) (pc' := 30) dX8_init_29 rfl rfl 0 rfl ?_
  refine j_lconst (z := 0) (pc' := 31) dX8_init_30 rfl rfl ?_
  obtain ⟨h17, e17, H⟩ := bs H
  refine j_putV (pc' := 34) dX8_init_31 rfl fp_X8_22 tL ⟨by decide, by decide⟩ e17 ?_
  refine j_aload_n (i := 0) (pc' := 35) dX8_init_34 rfl rfl 0 rfl ?_
  refine j_iconst (pc' := 36) dX8_init_35 rfl ?_
  obtain ⟨h18, e18, H⟩ := bs H
  refine j_putV (pc' := 39) dX8_init_36 rfl fp_X8_26 tI ⟨by decide, by decide⟩ e18 ?_
  refine j_aload_n (i := 0) (pc' := 40) dX8_init_39 rfl rfl 0 rfl ?_
  refine j_iconst (pc' := 41) dX8_init_40 rfl ?_
  obtain ⟨h19, e19, H⟩ := bs H
  refine j_putV (pc' := 44) dX8_init_41 rfl fp_X8_30 tI ⟨by decide, by decide⟩ e19 ?_
  refine j_aload_n (i := 0) (pc' := 45) dX8_init_44 rfl rfl 0 rfl ?_
  refine j_iconst (pc' := 46) dX8_init_45 rfl ?_
  obtain ⟨h20, e20, H⟩ := bs H
  refine j_putV (pc' := 49) dX8_init_46 rfl fp_X8_33 tI ⟨by decide, by decide⟩ e20 ?_
  refine j_aload_n (i := 0) (pc' := 50) dX8_init_49 rfl rfl 0 rfl ?_
  refine j_aload_n (i := 1) (pc' := 51) dX8_init_50 rfl rfl 1 rfl ?_
  obtain ⟨u21, e21, H⟩ := bs H
  obtain ⟨h22, e22, H⟩ := bs H
  refine j_putF (pc' := 54) dX8_init_51 rfl rfl fp_X8_36 tR (crf_R e21) e22 ?_
  obtain rfl := Option.some.inj H
  exact j_vret dX8_init_54 ⟨rfl, rfl⟩
-- X8_costAllHeaps
noncomputable def fX8_costAllHeaps_49  (h : Hp) : Option (Hp) :=
  some h
theorem tX8_costAllHeaps_49 {L : Nat} {xs : Nat → Int32} {l : Launch} {res : Hp}  (h : Hp)  (H : fX8_costAllHeaps_49  h = some res) : J L xs l RX8 cX8_costAllHeaps 3 false 5 (QV res) 0 0 49 [] [] h := by
  unfold fX8_costAllHeaps_49 at H
  obtain rfl := Option.some.inj H
  exact j_vret dX8_costAllHeaps_49 ⟨rfl, rfl⟩
noncomputable def fX8_costAllHeaps_20 : Nat → Nat → Int → Int → Hp → Option (Hp)
  | 0, _, _, _, _ => none
  | n + 1, x0, x1, x2, h => if x1 ≤ x2 then (fX8_costAllHeaps_49 h) else ((getR h 7 x0 0).bind fun v2 => (getR h 7 x0 3).bind fun v3 => (getI h 7 x0 5).bind fun v4 => (fX0_ofHeap v3 v4 x2 h).bind fun p5 => (ast p5.2 1 v2 x2 p5.1).bind fun h6 => (c32 (x2 + 1)).bind fun _ => fX8_costAllHeaps_20 n x0 x1 (x2 + 1) h6)
theorem tX8_costAllHeaps_20 {L : Nat} {xs : Nat → Int32} {l : Launch} {res : Hp} : ∀ (n : Nat) (x0 : Nat) (x1 : Int) (x2 : Int) (h : Hp), R32 x1 → R32 x2 → fX8_costAllHeaps_20 n x0 x1 x2 h = some res → J L xs l RX8 cX8_costAllHeaps 3 false 5 (QV res) 0 0 20 [(0, vr x0), (1, vi x1), (2, vi x2)] [] h := by
  intro n
  induction n with
  | zero => intro x0 x1 x2 h rx1 rx2 H; cases H
  | succ n ih =>
    intro x0 x1 x2 h rx1 rx2 H
    rw [fX8_costAllHeaps_20] at H
    refine j_iload_n (i := 2) (pc' := 21) dX8_costAllHeaps_20 rfl rfl 2 rfl ?_
    refine j_iload_n (i := 1) (pc' := 22) dX8_costAllHeaps_21 rfl rfl 1 rfl ?_
    refine j_icmp_ge (tgt := 49) (pc' := 25) dX8_costAllHeaps_22 (by decide) rfl rx2 rx1 (fun c1 => ?_) (fun c1 => ?_)
    · rw [if_pos c1] at H
      refine j_sub (lv' := []) [] rfl ?_
      exact tX8_costAllHeaps_49   h  H
    · rw [if_neg c1] at H
      refine j_aload_n (i := 0) (pc' := 26) dX8_costAllHeaps_25 rfl rfl 0 rfl ?_
      obtain ⟨v2, e2, H⟩ := bs H
      refine j_getR (pc' := 29) dX8_costAllHeaps_26 rfl fl_X8_9 e2 (fun r2 => ?_)
      refine j_iload_n (i := 2) (pc' := 30) dX8_costAllHeaps_29 rfl rfl 2 rfl ?_
      refine j_aload_n (i := 0) (pc' := 31) dX8_costAllHeaps_30 rfl rfl 0 rfl ?_
      obtain ⟨v3, e3, H⟩ := bs H
      refine j_getR (pc' := 34) dX8_costAllHeaps_31 rfl fl_X8_36 e3 (fun r3 => ?_)
      refine j_aload_n (i := 0) (pc' := 35) dX8_costAllHeaps_34 rfl rfl 0 rfl ?_
      obtain ⟨v4, e4, H⟩ := bs H
      refine j_getI (pc' := 38) dX8_costAllHeaps_35 rfl fl_X8_26 e4 (fun r4 => ?_)
      refine j_iload_n (i := 2) (pc' := 39) dX8_costAllHeaps_38 rfl rfl 2 rfl ?_
      obtain ⟨p5, e5, H⟩ := bs H
      refine j_cSl (y := yX0_ofHeap) (dY := 4) (vs := [vr v3, vi v4, vi x2]) (st := [vi x2, vr v2]) (pc' := 42) dX8_costAllHeaps_39 rfl ymX0_ofHeap ysX0_ofHeap ml_X8_74 (by decide) rfl (Nat.le_of_ble_eq_true rfl) (Nat.le_of_ble_eq_true rfl) (tX0_ofHeap v3 v4 x2 h r4 rx2 e5) (fun r5 z5 => ?_)
      obtain ⟨h6, e6, H⟩ := bs H
      refine j_last (pc' := 43) dX8_costAllHeaps_42 rfl r5 e6 ?_
      obtain ⟨u7, e7, H⟩ := bs H
      have r7 := c32_R e7
      refine j_iinc (k0 := 2) (lv' := [(0, vr x0), (1, vi x1), (2, vi (x2 + 1))]) (pc' := 46) dX8_costAllHeaps_43 rfl rfl (by decide) [1, 2, 0] rfl ?_
      refine j_goto (tgt := 20) dX8_costAllHeaps_46 (by decide) ?_
      exact ih x0 x1 (x2 + 1) h6 rx1 r7 H
noncomputable def fX8_costAllHeaps (a0 : Nat) (h : Hp) : Option (Hp) :=
  (getR h 7 a0 3).bind fun v1 => (getI h 6 v1 0).bind fun v2 => (getR h 7 a0 0).bind fun v3 => (aln h 1 v3).bind fun v4 => fX8_costAllHeaps_20 FU a0 (min (bShl 1 v2) v4) 0 h
theorem tX8_costAllHeaps {L : Nat} {xs : Nat → Int32} {l : Launch} {res : Hp} (a0 : Nat) (h : Hp)  (H : fX8_costAllHeaps a0 h = some res) : J L xs l RX8 cX8_costAllHeaps 3 false 5 (QV res) 0 0 0 (alv 0 [vr a0]) [] h := by
  unfold fX8_costAllHeaps at H
  show J L xs l RX8 cX8_costAllHeaps 3 false 5 (QV res) 0 0 0 [(0, vr a0)] [] h
  refine j_iconst (pc' := 1) dX8_costAllHeaps_0 rfl ?_
  refine j_aload_n (i := 0) (pc' := 2) dX8_costAllHeaps_1 rfl rfl 0 rfl ?_
  obtain ⟨v1, e1, H⟩ := bs H
  refine j_getR (pc' := 5) dX8_costAllHeaps_2 rfl fl_X8_36 e1 (fun r1 => ?_)
  obtain ⟨v2, e2, H⟩ := bs H
  refine j_getI (pc' := 8) dX8_costAllHeaps_5 rfl fl_X8_63 e2 (fun r2 => ?_)
  refine j_ishl (pc' := 9) dX8_costAllHeaps_8 rfl ?_
  refine j_aload_n (i := 0) (pc' := 10) dX8_costAllHeaps_9 rfl rfl 0 rfl ?_
  obtain ⟨v3, e3, H⟩ := bs H
  refine j_getR (pc' := 13) dX8_costAllHeaps_10 rfl fl_X8_9 e3 (fun r3 => ?_)
  obtain ⟨v4, e4, H⟩ := bs H
  refine j_alen (kd := 1) (pc' := 14) dX8_costAllHeaps_13 rfl e4 (fun r4 => ?_)
  refine j_mmin (pc' := 17) dX8_costAllHeaps_14 rfl ml_X8_68 (by decide) (Nat.le_of_ble_eq_true rfl) (R32_to _) r4 ?_
  refine j_istore_n (i := 1) (lv' := [(0, vr a0), (1, vi (min (bShl 1 v2) v4))]) (pc' := 18) dX8_costAllHeaps_17 rfl rfl (by decide) [1, 0] rfl ?_
  refine j_iconst (pc' := 19) dX8_costAllHeaps_18 rfl ?_
  refine j_istore_n (i := 2) (lv' := [(0, vr a0), (1, vi (min (bShl 1 v2) v4)), (2, vi 0)]) (pc' := 20) dX8_costAllHeaps_19 rfl rfl (by decide) [1, 2, 0] rfl ?_
  exact tX8_costAllHeaps_20   FU a0 (min (bShl 1 v2) v4) 0 h (R32_min (R32_to _) r4) ⟨by decide, by decide⟩ H
-- X8_take
noncomputable def fX8_take_17  (h : Hp) : Option (Hp) :=
  some h
theorem tX8_take_17 {L : Nat} {xs : Nat → Int32} {l : Launch} {res : Hp}  (h : Hp)  (H : fX8_take_17  h = some res) : J L xs l RX8 cX8_take 4 false 1 (QV res) 0 0 17 [] [] h := by
  unfold fX8_take_17 at H
  obtain rfl := Option.some.inj H
  exact j_vret dX8_take_17 ⟨rfl, rfl⟩
noncomputable def fX8_take (a0 : Nat) (a1 : Int) (a2 : Int) (h : Hp) : Option (Hp) :=
  (getI h 7 a0 6).bind fun v1 => if a1 < v1 then (fX8_take_17 h) else ((getL h 7 a0 4).bind fun v3 => if (lCmp a2 v3) < 0 then ((putV h 7 a0 4 (vl a2)).bind fun h5 => (getR h5 7 a0 2).bind fun v6 => (getR h5 7 a0 3).bind fun v7 => (getR h5 6 v7 5).bind fun v8 => (getR h5 5 v8 2).bind fun v9 => (getR h5 7 a0 3).bind fun v10 => (getI h5 6 v10 0).bind fun v11 => (cpyI h5 v6 0 v9 0 v11).bind fun h12 => (getR h12 7 a0 3).bind fun v13 => (getR h12 6 v13 5).bind fun v14 => (putV h12 5 v14 1 (vi a1)).bind fun h15 => some h15) else (fX8_take_17 h))
theorem tX8_take {L : Nat} {xs : Nat → Int32} {l : Launch} {res : Hp} (a0 : Nat) (a1 : Int) (a2 : Int) (h : Hp) (ra1 : R32 a1) (ra2 : R64 a2) (H : fX8_take a0 a1 a2 h = some res) : J L xs l RX8 cX8_take 4 false 1 (QV res) 0 0 0 (alv 0 [vr a0, vi a1, vl a2]) [] h := by
  unfold fX8_take at H
  show J L xs l RX8 cX8_take 4 false 1 (QV res) 0 0 0 [(0, vr a0), (1, vi a1), (2, vl a2)] [] h
  refine j_iload_n (i := 1) (pc' := 1) dX8_take_0 rfl rfl 1 rfl ?_
  refine j_aload_n (i := 0) (pc' := 2) dX8_take_1 rfl rfl 0 rfl ?_
  obtain ⟨v1, e1, H⟩ := bs H
  refine j_getI (pc' := 5) dX8_take_2 rfl fl_X8_30 e1 (fun r1 => ?_)
  refine j_icmp_lt (tgt := 17) (pc' := 8) dX8_take_5 (by decide) rfl ra1 r1 (fun c2 => ?_) (fun c2 => ?_)
  · rw [if_pos c2] at H
    refine j_sub (lv' := []) [] rfl ?_
    exact tX8_take_17   h  H
  · rw [if_neg c2] at H
    refine j_lload_n (i := 2) (pc' := 9) dX8_take_8 rfl rfl 2 rfl ?_
    refine j_aload_n (i := 0) (pc' := 10) dX8_take_9 rfl rfl 0 rfl ?_
    obtain ⟨v3, e3, H⟩ := bs H
    refine j_getL (pc' := 13) dX8_take_10 rfl fl_X8_22 e3 (fun r3 => ?_)
    refine j_lcmp (pc' := 14) dX8_take_13 rfl ra2 r3 ?_
    refine j_if_lt (tgt := 18) (pc' := 17) dX8_take_14 (by decide) rfl (R32_lcmp _ _) (fun c4 => ?_) (fun c4 => ?_)
    · rw [if_pos c4] at H
      refine j_aload_n (i := 0) (pc' := 19) dX8_take_18 rfl rfl 0 rfl ?_
      refine j_lload_n (i := 2) (pc' := 20) dX8_take_19 rfl rfl 2 rfl ?_
      obtain ⟨h5, e5, H⟩ := bs H
      refine j_putV (pc' := 23) dX8_take_20 rfl fp_X8_22 tL ra2 e5 ?_
      refine j_aload_n (i := 0) (pc' := 24) dX8_take_23 rfl rfl 0 rfl ?_
      obtain ⟨v6, e6, H⟩ := bs H
      refine j_getR (pc' := 27) dX8_take_24 rfl fl_X8_19 e6 (fun r6 => ?_)
      refine j_iconst (pc' := 28) dX8_take_27 rfl ?_
      refine j_aload_n (i := 0) (pc' := 29) dX8_take_28 rfl rfl 0 rfl ?_
      obtain ⟨v7, e7, H⟩ := bs H
      refine j_getR (pc' := 32) dX8_take_29 rfl fl_X8_36 e7 (fun r7 => ?_)
      obtain ⟨v8, e8, H⟩ := bs H
      refine j_getR (pc' := 35) dX8_take_32 rfl fl_X8_94 e8 (fun r8 => ?_)
      obtain ⟨v9, e9, H⟩ := bs H
      refine j_getR (pc' := 38) dX8_take_35 rfl fl_X8_98 e9 (fun r9 => ?_)
      refine j_iconst (pc' := 39) dX8_take_38 rfl ?_
      refine j_aload_n (i := 0) (pc' := 40) dX8_take_39 rfl rfl 0 rfl ?_
      obtain ⟨v10, e10, H⟩ := bs H
      refine j_getR (pc' := 43) dX8_take_40 rfl fl_X8_36 e10 (fun r10 => ?_)
      obtain ⟨v11, e11, H⟩ := bs H
      refine j_getI (pc' := 46) dX8_take_43 rfl fl_X8_63 e11 (fun r11 => ?_)
      obtain ⟨h12, e12, H⟩ := bs H
      refine j_cpy (pc' := 49) dX8_take_46 rfl ml_X8_101 sy_1 sy_2 sy_3 (by decide) (Nat.le_of_ble_eq_true rfl) e12 ?_
      refine j_aload_n (i := 0) (pc' := 50) dX8_take_49 rfl rfl 0 rfl ?_
      obtain ⟨v13, e13, H⟩ := bs H
      refine j_getR (pc' := 53) dX8_take_50 rfl fl_X8_36 e13 (fun r13 => ?_)
      obtain ⟨v14, e14, H⟩ := bs H
      refine j_getR (pc' := 56) dX8_take_53 rfl fl_X8_94 e14 (fun r14 => ?_)
      refine j_iload_n (i := 1) (pc' := 57) dX8_take_56 rfl rfl 1 rfl ?_
      obtain ⟨h15, e15, H⟩ := bs H
      refine j_putV (pc' := 60) dX8_take_57 rfl fp_X8_107 tI ra1 e15 ?_
      obtain rfl := Option.some.inj H
      exact j_vret dX8_take_60 ⟨rfl, rfl⟩
    · rw [if_neg c4] at H
      refine j_sub (lv' := []) [] rfl ?_
      exact tX8_take_17   h  H
-- X8_grown
noncomputable def fX8_grown (a0 : Nat) (a1 : Int) (a2 : Int) (a3 : Int) (h : Hp) : Option (Int × Hp) :=
  (getI h 7 a0 5).bind fun v1 => if v1 = 2 then ((getR h 7 a0 3).bind fun v11 => (fX0_reach v11 a3 a2 a3 h).bind fun p12 => some ((max a1 p12.1), p12.2)) else ((getR h 7 a0 0).bind fun v3 => (aln h 1 v3).bind fun v4 => if (bOr a2 (bShl 1 a3)) < v4 then ((getR h 7 a0 0).bind fun v6 => (ald h 1 v6 a2).bind fun v7 => (getR h 7 a0 0).bind fun v8 => (ald h 1 v8 (bOr a2 (bShl 1 a3))).bind fun v9 => (c64 ((a1 - v7) + v9)).bind fun _ => some (((a1 - v7) + v9), h)) else (some (a1, h)))
theorem tX8_grown {L : Nat} {xs : Nat → Int32} {l : Launch} {res : Int × Hp} (a0 : Nat) (a1 : Int) (a2 : Int) (a3 : Int) (h : Hp) (ra1 : R64 a1) (ra2 : R32 a2) (ra3 : R32 a3) (H : fX8_grown a0 a1 a2 a3 h = some res) : J L xs l RX8 cX8_grown 6 false 3 (QL res) 0 0 0 (alv 0 [vr a0, vl a1, vi a2, vi a3]) [] h := by
  unfold fX8_grown at H
  show J L xs l RX8 cX8_grown 6 false 3 (QL res) 0 0 0 [(0, vr a0), (1, vl a1), (3, vi a2), (4, vi a3)] [] h
  refine j_aload_n (i := 0) (pc' := 1) dX8_grown_0 rfl rfl 0 rfl ?_
  obtain ⟨v1, e1, H⟩ := bs H
  refine j_getI (pc' := 4) dX8_grown_1 rfl fl_X8_26 e1 (fun r1 => ?_)
  refine j_iconst (pc' := 5) dX8_grown_4 rfl ?_
  refine j_icmp_ne (tgt := 26) (pc' := 8) dX8_grown_5 (by decide) rfl r1 ⟨by decide, by decide⟩ (fun c2 => ?_) (fun c2 => ?_)
  · rw [if_neg c2] at H
    refine j_iload_n (i := 3) (pc' := 27) dX8_grown_26 rfl rfl 2 rfl ?_
    refine j_iconst (pc' := 28) dX8_grown_27 rfl ?_
    refine j_iload (pc' := 30) dX8_grown_28 rfl 3 rfl ?_
    refine j_ishl (pc' := 31) dX8_grown_30 rfl ?_
    refine j_ior (pc' := 32) dX8_grown_31 rfl ?_
    refine j_istore (lv' := [(0, vr a0), (1, vl a1), (3, vi a2), (4, vi a3), (5, vi (bOr a2 (bShl 1 a3)))]) (pc' := 34) dX8_grown_32 rfl (by decide) [1, 2, 3, 4, 0] rfl ?_
    refine j_iload (pc' := 36) dX8_grown_34 rfl 4 rfl ?_
    refine j_aload_n (i := 0) (pc' := 37) dX8_grown_36 rfl rfl 0 rfl ?_
    obtain ⟨v3, e3, H⟩ := bs H
    refine j_getR (pc' := 40) dX8_grown_37 rfl fl_X8_9 e3 (fun r3 => ?_)
    obtain ⟨v4, e4, H⟩ := bs H
    refine j_alen (kd := 1) (pc' := 41) dX8_grown_40 rfl e4 (fun r4 => ?_)
    refine j_icmp_lt (tgt := 46) (pc' := 44) dX8_grown_41 (by decide) rfl (R32_to _) r4 (fun c5 => ?_) (fun c5 => ?_)
    · rw [if_pos c5] at H
      refine j_lload_n (i := 1) (pc' := 47) dX8_grown_46 rfl rfl 1 rfl ?_
      refine j_aload_n (i := 0) (pc' := 48) dX8_grown_47 rfl rfl 0 rfl ?_
      obtain ⟨v6, e6, H⟩ := bs H
      refine j_getR (pc' := 51) dX8_grown_48 rfl fl_X8_9 e6 (fun r6 => ?_)
      refine j_iload_n (i := 3) (pc' := 52) dX8_grown_51 rfl rfl 2 rfl ?_
      obtain ⟨v7, e7, H⟩ := bs H
      refine j_lald (pc' := 53) dX8_grown_52 rfl e7 (fun r7 => ?_)
      refine j_lsub (pc' := 54) dX8_grown_53 rfl ?_
      refine j_aload_n (i := 0) (pc' := 55) dX8_grown_54 rfl rfl 0 rfl ?_
      obtain ⟨v8, e8, H⟩ := bs H
      refine j_getR (pc' := 58) dX8_grown_55 rfl fl_X8_9 e8 (fun r8 => ?_)
      refine j_iload (pc' := 60) dX8_grown_58 rfl 4 rfl ?_
      obtain ⟨v9, e9, H⟩ := bs H
      refine j_lald (pc' := 61) dX8_grown_60 rfl e9 (fun r9 => ?_)
      refine j_ladd (pc' := 62) dX8_grown_61 rfl ?_
      obtain ⟨u10, e10, H⟩ := bs H
      have r10 := c64_R e10
      obtain rfl := Option.some.inj H
      exact j_lret dX8_grown_62 r10 ⟨rfl, rfl⟩
    · rw [if_neg c5] at H
      refine j_lload_n (i := 1) (pc' := 45) dX8_grown_44 rfl rfl 1 rfl ?_
      obtain rfl := Option.some.inj H
      exact j_lret dX8_grown_45 ra1 ⟨rfl, rfl⟩
  · rw [if_pos c2] at H
    refine j_lload_n (i := 1) (pc' := 9) dX8_grown_8 rfl rfl 1 rfl ?_
    refine j_aload_n (i := 0) (pc' := 10) dX8_grown_9 rfl rfl 0 rfl ?_
    obtain ⟨v11, e11, H⟩ := bs H
    refine j_getR (pc' := 13) dX8_grown_10 rfl fl_X8_36 e11 (fun r11 => ?_)
    refine j_iload (pc' := 15) dX8_grown_13 rfl 3 rfl ?_
    refine j_iload_n (i := 3) (pc' := 16) dX8_grown_15 rfl rfl 2 rfl ?_
    refine j_iload (pc' := 18) dX8_grown_16 rfl 3 rfl ?_
    obtain ⟨p12, e12, H⟩ := bs H
    refine j_cSi (y := yX0_reach) (dY := 2) (vs := [vr v11, vi a3, vi a2, vi a3]) (st := [vl a1]) (pc' := 21) dX8_grown_18 rfl ymX0_reach ysX0_reach ml_X8_86 (by decide) rfl (Nat.le_of_ble_eq_true rfl) (Nat.le_of_ble_eq_true rfl) (tX0_reach v11 a3 a2 a3 h ra3 ra2 ra3 e12) (fun r12 z12 => ?_)
    refine j_i2l (pc' := 22) dX8_grown_21 rfl r12 ?_
    refine j_mmaxl (pc' := 25) dX8_grown_22 rfl ml_X8_90 (by decide) (Nat.le_of_ble_eq_true rfl) ra1 (R32_l r12) ?_
    obtain rfl := Option.some.inj H
    exact j_lret dX8_grown_25 (R64_max ra1 (R32_l r12)) ⟨rfl, rfl⟩
-- X8_descend
noncomputable def fX8_descend_17 (self : Nat → Int → Int → Int → Hp → Option (Hp)) (x0 : Nat) (x2 : Int) (x3 : Int) (h : Hp) : Option (Hp) :=
  (cob h 7 x0).bind fun _ => (fX8_take x0 x2 x3 h).bind fun h2 => some h2
theorem tX8_descend_17 {L : Nat} {xs : Nat → Int32} {l : Launch} {res : Hp} {dS : Nat} (hdS : 3 ≤ dS) (self : Nat → Int → Int → Int → Hp → Option (Hp)) (hs : ∀ (rr : Hp) (a0 : Nat) (a1 : Int) (a2 : Int) (a3 : Int) (h : Hp), R32 a1 → R32 a2 → R64 a3 → self a0 a1 a2 a3 h = some rr → J L xs l RX8 cX8_descend 10 false dS (QV rr) 0 0 0 (alv 0 [vr a0, vi a1, vi a2, vl a3]) [] h) (x0 : Nat) (x2 : Int) (x3 : Int) (h : Hp) (rx2 : R32 x2) (rx3 : R64 x3) (H : fX8_descend_17 self x0 x2 x3 h = some res) : J L xs l RX8 cX8_descend 10 false (dS + 1) (QV res) 0 0 17 [(0, vr x0), (2, vi x2), (3, vl x3)] [] h := by
  unfold fX8_descend_17 at H
  refine j_aload_n (i := 0) (pc' := 18) dX8_descend_17 rfl rfl 0 rfl ?_
  refine j_iload_n (i := 2) (pc' := 19) dX8_descend_18 rfl rfl 1 rfl ?_
  refine j_lload_n (i := 3) (pc' := 20) dX8_descend_19 rfl rfl 2 rfl ?_
  obtain ⟨u1, e1, H⟩ := bs H
  obtain ⟨h2, e2, H⟩ := bs H
  refine j_cVv (y := yX8_take) (dY := 1) (vs := [vi x2, vl x3]) (st := []) (q := x0) (pc' := 23) dX8_descend_20 rfl ymX8_take yvX8_take ml_X8_78 (by omega) rfl (Nat.le_of_ble_eq_true rfl) (Nat.le_of_ble_eq_true rfl) e1 (tX8_take x0 x2 x3 h rx2 rx3 e2) (fun z2 => ?_)
  obtain rfl := Option.some.inj H
  exact j_vret dX8_descend_23 ⟨rfl, rfl⟩
noncomputable def fX8_descend_170 (self : Nat → Int → Int → Int → Hp → Option (Hp))  (h : Hp) : Option (Hp) :=
  some h
theorem tX8_descend_170 {L : Nat} {xs : Nat → Int32} {l : Launch} {res : Hp} {dS : Nat} (hdS : 3 ≤ dS) (self : Nat → Int → Int → Int → Hp → Option (Hp)) (hs : ∀ (rr : Hp) (a0 : Nat) (a1 : Int) (a2 : Int) (a3 : Int) (h : Hp), R32 a1 → R32 a2 → R64 a3 → self a0 a1 a2 a3 h = some rr → J L xs l RX8 cX8_descend 10 false dS (QV rr) 0 0 0 (alv 0 [vr a0, vi a1, vi a2, vl a3]) [] h)  (h : Hp)  (H : fX8_descend_170 self  h = some res) : J L xs l RX8 cX8_descend 10 false (dS + 1) (QV res) 0 0 170 [] [] h := by
  unfold fX8_descend_170 at H
  obtain rfl := Option.some.inj H
  exact j_vret dX8_descend_170 ⟨rfl, rfl⟩
noncomputable def fX8_descend_164 (self : Nat → Int → Int → Int → Hp → Option (Hp)) (k58 : Nat → Int → Int → Int → Int → Int → Hp → Option (Hp)) (x0 : Nat) (x1 : Int) (x2 : Int) (x3 : Int) (x5 : Int) (x6 : Int) (h : Hp) : Option (Hp) :=
  (c32 (x6 + 1)).bind fun _ => k58 x0 x1 x2 x3 x5 (x6 + 1) h
theorem tX8_descend_164 {L : Nat} {xs : Nat → Int32} {l : Launch} {res : Hp} {dS : Nat} (hdS : 3 ≤ dS) (self : Nat → Int → Int → Int → Hp → Option (Hp)) (k58 : Nat → Int → Int → Int → Int → Int → Hp → Option (Hp)) (hs : ∀ (rr : Hp) (a0 : Nat) (a1 : Int) (a2 : Int) (a3 : Int) (h : Hp), R32 a1 → R32 a2 → R64 a3 → self a0 a1 a2 a3 h = some rr → J L xs l RX8 cX8_descend 10 false dS (QV rr) 0 0 0 (alv 0 [vr a0, vi a1, vi a2, vl a3]) [] h) (hk58 : ∀ (x0 : Nat) (x1 : Int) (x2 : Int) (x3 : Int) (x5 : Int) (x6 : Int) (h : Hp), R32 x1 → R32 x2 → R64 x3 → R32 x5 → R32 x6 → k58 x0 x1 x2 x3 x5 x6 h = some res → J L xs l RX8 cX8_descend 10 false (dS + 1) (QV res) 0 0 58 [(0, vr x0), (1, vi x1), (2, vi x2), (3, vl x3), (5, vi x5), (6, vi x6)] [] h) (x0 : Nat) (x1 : Int) (x2 : Int) (x3 : Int) (x5 : Int) (x6 : Int) (h : Hp) (rx1 : R32 x1) (rx2 : R32 x2) (rx3 : R64 x3) (rx5 : R32 x5) (rx6 : R32 x6) (H : fX8_descend_164 self k58 x0 x1 x2 x3 x5 x6 h = some res) : J L xs l RX8 cX8_descend 10 false (dS + 1) (QV res) 0 0 164 [(0, vr x0), (1, vi x1), (2, vi x2), (3, vl x3), (5, vi x5), (6, vi x6)] [] h := by
  unfold fX8_descend_164 at H
  obtain ⟨u1, e1, H⟩ := bs H
  have r1 := c32_R e1
  refine j_iinc (k0 := 5) (lv' := [(0, vr x0), (1, vi x1), (2, vi x2), (3, vl x3), (5, vi x5), (6, vi (x6 + 1))]) (pc' := 167) dX8_descend_164 rfl rfl (by decide) [1, 2, 3, 4, 5, 0] rfl ?_
  refine j_goto (tgt := 58) dX8_descend_167 (by decide) ?_
  exact hk58 x0 x1 x2 x3 x5 (x6 + 1) h rx1 rx2 rx3 rx5 r1 H
noncomputable def fX8_descend_150 (self : Nat → Int → Int → Int → Hp → Option (Hp)) (k58 : Nat → Int → Int → Int → Int → Int → Hp → Option (Hp)) (x0 : Nat) (x1 : Int) (x2 : Int) (x3 : Int) (x5 : Int) (x6 : Int) (x7 : Int) (x8 : Int) (s0 : Int) (s1 : Int) (s2 : Nat) (h : Hp) : Option (Hp) :=
  (cob h 7 s2).bind fun _ => (self s2 s1 s0 x8 h).bind fun h2 => (getR h2 7 x0 1).bind fun v3 => (ast h2 0 v3 x6 x7).bind fun h4 => fX8_descend_164 self k58 x0 x1 x2 x3 x5 x6 h4
theorem tX8_descend_150 {L : Nat} {xs : Nat → Int32} {l : Launch} {res : Hp} {dS : Nat} (hdS : 3 ≤ dS) (self : Nat → Int → Int → Int → Hp → Option (Hp)) (k58 : Nat → Int → Int → Int → Int → Int → Hp → Option (Hp)) (hs : ∀ (rr : Hp) (a0 : Nat) (a1 : Int) (a2 : Int) (a3 : Int) (h : Hp), R32 a1 → R32 a2 → R64 a3 → self a0 a1 a2 a3 h = some rr → J L xs l RX8 cX8_descend 10 false dS (QV rr) 0 0 0 (alv 0 [vr a0, vi a1, vi a2, vl a3]) [] h) (hk58 : ∀ (x0 : Nat) (x1 : Int) (x2 : Int) (x3 : Int) (x5 : Int) (x6 : Int) (h : Hp), R32 x1 → R32 x2 → R64 x3 → R32 x5 → R32 x6 → k58 x0 x1 x2 x3 x5 x6 h = some res → J L xs l RX8 cX8_descend 10 false (dS + 1) (QV res) 0 0 58 [(0, vr x0), (1, vi x1), (2, vi x2), (3, vl x3), (5, vi x5), (6, vi x6)] [] h) (x0 : Nat) (x1 : Int) (x2 : Int) (x3 : Int) (x5 : Int) (x6 : Int) (x7 : Int) (x8 : Int) (s0 : Int) (s1 : Int) (s2 : Nat) (h : Hp) (rx1 : R32 x1) (rx2 : R32 x2) (rx3 : R64 x3) (rx5 : R32 x5) (rx6 : R32 x6) (rx7 : R32 x7) (rx8 : R64 x8) (rs0 : R32 s0) (rs1 : R32 s1) (H : fX8_descend_150 self k58 x0 x1 x2 x3 x5 x6 x7 x8 s0 s1 s2 h = some res) : J L xs l RX8 cX8_descend 10 false (dS + 1) (QV res) 0 0 150 [(0, vr x0), (1, vi x1), (2, vi x2), (3, vl x3), (5, vi x5), (6, vi x6), (7, vi x7), (8, vl x8)] [vi s0, vi s1, vr s2] h := by
  unfold fX8_descend_150 at H
  refine j_lload (pc' := 152) dX8_descend_150 rfl 7 rfl ?_
  obtain ⟨u1, e1, H⟩ := bs H
  obtain ⟨h2, e2, H⟩ := bs H
  refine j_cVv (y := yX8_descend) (dY := dS) (vs := [vi s1, vi s0, vl x8]) (st := []) (q := s2) (pc' := 155) dX8_descend_152 rfl ymX8_descend yvX8_descend ml_X8_59 (Nat.le_refl _) rfl (Nat.le_of_ble_eq_true rfl) (Nat.le_of_ble_eq_true rfl) e1 (hs _ s2 s1 s0 x8 h rs1 rs0 rx8 e2) (fun z2 => ?_)
  refine j_aload_n (i := 0) (pc' := 156) dX8_descend_155 rfl rfl 0 rfl ?_
  obtain ⟨v3, e3, H⟩ := bs H
  refine j_getR (pc' := 159) dX8_descend_156 rfl fl_X8_15 e3 (fun r3 => ?_)
  refine j_iload (pc' := 161) dX8_descend_159 rfl 5 rfl ?_
  refine j_iload (pc' := 163) dX8_descend_161 rfl 6 rfl ?_
  obtain ⟨h4, e4, H⟩ := bs H
  refine j_iast (pc' := 164) dX8_descend_163 rfl rx7 e4 ?_
  refine j_sub (lv' := [(0, vr x0), (1, vi x1), (2, vi x2), (3, vl x3), (5, vi x5), (6, vi x6)]) [0, 1, 2, 3, 4, 5] rfl ?_
  exact tX8_descend_164 hdS _ _ hs hk58 x0 x1 x2 x3 x5 x6 h4 rx1 rx2 rx3 rx5 rx6 H
noncomputable def fX8_descend_112 (self : Nat → Int → Int → Int → Hp → Option (Hp)) (k58 : Nat → Int → Int → Int → Int → Int → Hp → Option (Hp)) (x0 : Nat) (x1 : Int) (x2 : Int) (x3 : Int) (x5 : Int) (x6 : Int) (x7 : Int) (x8 : Int) (h : Hp) : Option (Hp) :=
  (getR h 7 x0 1).bind fun v1 => (ast h 0 v1 x6 (bOr x7 (bShl 1 x1))).bind fun h2 => (getR h2 7 x0 2).bind fun v3 => (ast h2 0 v3 x1 x6).bind fun h4 => if x6 = x2 then ((c32 (x2 + 1)).bind fun _ => (c32 (x1 + 1)).bind fun _ => fX8_descend_150 self k58 x0 x1 x2 x3 x5 x6 x7 x8 (x2 + 1) (x1 + 1) x0 h4) else ((c32 (x1 + 1)).bind fun _ => fX8_descend_150 self k58 x0 x1 x2 x3 x5 x6 x7 x8 x2 (x1 + 1) x0 h4)
theorem tX8_descend_112 {L : Nat} {xs : Nat → Int32} {l : Launch} {res : Hp} {dS : Nat} (hdS : 3 ≤ dS) (self : Nat → Int → Int → Int → Hp → Option (Hp)) (k58 : Nat → Int → Int → Int → Int → Int → Hp → Option (Hp)) (hs : ∀ (rr : Hp) (a0 : Nat) (a1 : Int) (a2 : Int) (a3 : Int) (h : Hp), R32 a1 → R32 a2 → R64 a3 → self a0 a1 a2 a3 h = some rr → J L xs l RX8 cX8_descend 10 false dS (QV rr) 0 0 0 (alv 0 [vr a0, vi a1, vi a2, vl a3]) [] h) (hk58 : ∀ (x0 : Nat) (x1 : Int) (x2 : Int) (x3 : Int) (x5 : Int) (x6 : Int) (h : Hp), R32 x1 → R32 x2 → R64 x3 → R32 x5 → R32 x6 → k58 x0 x1 x2 x3 x5 x6 h = some res → J L xs l RX8 cX8_descend 10 false (dS + 1) (QV res) 0 0 58 [(0, vr x0), (1, vi x1), (2, vi x2), (3, vl x3), (5, vi x5), (6, vi x6)] [] h) (x0 : Nat) (x1 : Int) (x2 : Int) (x3 : Int) (x5 : Int) (x6 : Int) (x7 : Int) (x8 : Int) (h : Hp) (rx1 : R32 x1) (rx2 : R32 x2) (rx3 : R64 x3) (rx5 : R32 x5) (rx6 : R32 x6) (rx7 : R32 x7) (rx8 : R64 x8) (H : fX8_descend_112 self k58 x0 x1 x2 x3 x5 x6 x7 x8 h = some res) : J L xs l RX8 cX8_descend 10 false (dS + 1) (QV res) 0 0 112 [(0, vr x0), (1, vi x1), (2, vi x2), (3, vl x3), (5, vi x5), (6, vi x6), (7, vi x7), (8, vl x8)] [] h := by
  unfold fX8_descend_112 at H
  refine j_aload_n (i := 0) (pc' := 113) dX8_descend_112 rfl rfl 0 rfl ?_
  obtain ⟨v1, e1, H⟩ := bs H
  refine j_getR (pc' := 116) dX8_descend_113 rfl fl_X8_15 e1 (fun r1 => ?_)
  refine j_iload (pc' := 118) dX8_descend_116 rfl 5 rfl ?_
  refine j_iload (pc' := 120) dX8_descend_118 rfl 6 rfl ?_
  refine j_iconst (pc' := 121) dX8_descend_120 rfl ?_
  refine j_iload_n (i := 1) (pc' := 122) dX8_descend_121 rfl rfl 1 rfl ?_
  refine j_ishl (pc' := 123) dX8_descend_122 rfl ?_
  refine j_ior (pc' := 124) dX8_descend_123 rfl ?_
  obtain ⟨h2, e2, H⟩ := bs H
  refine j_iast (pc' := 125) dX8_descend_124 rfl (R32_to _) e2 ?_
  refine j_aload_n (i := 0) (pc' := 126) dX8_descend_125 rfl rfl 0 rfl ?_
  obtain ⟨v3, e3, H⟩ := bs H
  refine j_getR (pc' := 129) dX8_descend_126 rfl fl_X8_19 e3 (fun r3 => ?_)
  refine j_iload_n (i := 1) (pc' := 130) dX8_descend_129 rfl rfl 1 rfl ?_
  refine j_iload (pc' := 132) dX8_descend_130 rfl 5 rfl ?_
  obtain ⟨h4, e4, H⟩ := bs H
  refine j_iast (pc' := 133) dX8_descend_132 rfl rx6 e4 ?_
  refine j_aload_n (i := 0) (pc' := 134) dX8_descend_133 rfl rfl 0 rfl ?_
  refine j_iload_n (i := 1) (pc' := 135) dX8_descend_134 rfl rfl 1 rfl ?_
  refine j_iconst (pc' := 136) dX8_descend_135 rfl ?_
  refine j_iadd (pc' := 137) dX8_descend_136 rfl ?_
  refine j_iload (pc' := 139) dX8_descend_137 rfl 5 rfl ?_
  refine j_iload_n (i := 2) (pc' := 140) dX8_descend_139 rfl rfl 2 rfl ?_
  refine j_icmp_ne (tgt := 149) (pc' := 143) dX8_descend_140 (by decide) rfl rx6 rx2 (fun c5 => ?_) (fun c5 => ?_)
  · rw [if_neg c5] at H
    refine j_iload_n (i := 2) (pc' := 150) dX8_descend_149 rfl rfl 2 rfl ?_
    obtain ⟨u6, e6, H⟩ := bs H
    have r6 := c32_R e6
    exact tX8_descend_150 hdS _ _ hs hk58 x0 x1 x2 x3 x5 x6 x7 x8 x2 (x1 + 1) x0 h4 rx1 rx2 rx3 rx5 rx6 rx7 rx8 rx2 r6 H
  · rw [if_pos c5] at H
    refine j_iload_n (i := 2) (pc' := 144) dX8_descend_143 rfl rfl 2 rfl ?_
    refine j_iconst (pc' := 145) dX8_descend_144 rfl ?_
    refine j_iadd (pc' := 146) dX8_descend_145 rfl ?_
    refine j_goto (tgt := 150) dX8_descend_146 (by decide) ?_
    obtain ⟨u7, e7, H⟩ := bs H
    have r7 := c32_R e7
    obtain ⟨u8, e8, H⟩ := bs H
    have r8 := c32_R e8
    exact tX8_descend_150 hdS _ _ hs hk58 x0 x1 x2 x3 x5 x6 x7 x8 (x2 + 1) (x1 + 1) x0 h4 rx1 rx2 rx3 rx5 rx6 rx7 rx8 r7 r8 H
noncomputable def fX8_descend_58 (self : Nat → Int → Int → Int → Hp → Option (Hp)) : Nat → Nat → Int → Int → Int → Int → Int → Hp → Option (Hp)
  | 0, _, _, _, _, _, _, _ => none
  | n + 1, x0, x1, x2, x3, x5, x6, h => if x5 < x6 then (fX8_descend_170 self h) else (if 12 ≤ x6 then (fX8_descend_170 self h) else ((getR h 7 x0 1).bind fun v3 => (ald h 0 v3 x6).bind fun v4 => (cob h 7 x0).bind fun _ => (fX8_grown x0 x3 v4 x1 h).bind fun p6 => (getI p6.2 7 x0 5).bind fun v7 => if v7 = 2 then ((getL p6.2 7 x0 4).bind fun v9 => if (lCmp p6.1 v9) < 0 then (fX8_descend_112 self (fX8_descend_58 self n) x0 x1 x2 x3 x5 x6 v4 p6.1 p6.2) else (fX8_descend_164 self (fX8_descend_58 self n) x0 x1 x2 x3 x5 x6 p6.2)) else (fX8_descend_112 self (fX8_descend_58 self n) x0 x1 x2 x3 x5 x6 v4 p6.1 p6.2)))
theorem tX8_descend_58 {L : Nat} {xs : Nat → Int32} {l : Launch} {res : Hp} {dS : Nat} (hdS : 3 ≤ dS) (self : Nat → Int → Int → Int → Hp → Option (Hp)) (hs : ∀ (rr : Hp) (a0 : Nat) (a1 : Int) (a2 : Int) (a3 : Int) (h : Hp), R32 a1 → R32 a2 → R64 a3 → self a0 a1 a2 a3 h = some rr → J L xs l RX8 cX8_descend 10 false dS (QV rr) 0 0 0 (alv 0 [vr a0, vi a1, vi a2, vl a3]) [] h) : ∀ (n : Nat) (x0 : Nat) (x1 : Int) (x2 : Int) (x3 : Int) (x5 : Int) (x6 : Int) (h : Hp), R32 x1 → R32 x2 → R64 x3 → R32 x5 → R32 x6 → fX8_descend_58 self n x0 x1 x2 x3 x5 x6 h = some res → J L xs l RX8 cX8_descend 10 false (dS + 1) (QV res) 0 0 58 [(0, vr x0), (1, vi x1), (2, vi x2), (3, vl x3), (5, vi x5), (6, vi x6)] [] h := by
  intro n
  induction n with
  | zero => intro x0 x1 x2 x3 x5 x6 h rx1 rx2 rx3 rx5 rx6 H; cases H
  | succ n ih =>
    intro x0 x1 x2 x3 x5 x6 h rx1 rx2 rx3 rx5 rx6 H
    rw [fX8_descend_58] at H
    refine j_iload (pc' := 60) dX8_descend_58 rfl 5 rfl ?_
    refine j_iload (pc' := 62) dX8_descend_60 rfl 4 rfl ?_
    refine j_icmp_gt (tgt := 170) (pc' := 65) dX8_descend_62 (by decide) rfl rx6 rx5 (fun c1 => ?_) (fun c1 => ?_)
    · rw [if_pos c1] at H
      refine j_sub (lv' := []) [] rfl ?_
      exact tX8_descend_170 hdS _ hs h  H
    · rw [if_neg c1] at H
      refine j_iload (pc' := 67) dX8_descend_65 rfl 5 rfl ?_
      refine j_bipush (pc' := 69) dX8_descend_67 rfl (by decide +kernel) ?_
      refine j_icmp_ge (tgt := 170) (pc' := 72) dX8_descend_69 (by decide) rfl rx6 ⟨by decide, by decide⟩ (fun c2 => ?_) (fun c2 => ?_)
      · rw [if_pos c2] at H
        refine j_sub (lv' := []) [] rfl ?_
        exact tX8_descend_170 hdS _ hs h  H
      · rw [if_neg c2] at H
        refine j_aload_n (i := 0) (pc' := 73) dX8_descend_72 rfl rfl 0 rfl ?_
        obtain ⟨v3, e3, H⟩ := bs H
        refine j_getR (pc' := 76) dX8_descend_73 rfl fl_X8_15 e3 (fun r3 => ?_)
        refine j_iload (pc' := 78) dX8_descend_76 rfl 5 rfl ?_
        obtain ⟨v4, e4, H⟩ := bs H
        refine j_iald (pc' := 79) dX8_descend_78 rfl e4 (fun r4 => ?_)
        refine j_istore (lv' := [(0, vr x0), (1, vi x1), (2, vi x2), (3, vl x3), (5, vi x5), (6, vi x6), (7, vi v4)]) (pc' := 81) dX8_descend_79 rfl (by decide) [1, 2, 3, 4, 5, 6, 0] rfl ?_
        refine j_aload_n (i := 0) (pc' := 82) dX8_descend_81 rfl rfl 0 rfl ?_
        refine j_lload_n (i := 3) (pc' := 83) dX8_descend_82 rfl rfl 3 rfl ?_
        refine j_iload (pc' := 85) dX8_descend_83 rfl 6 rfl ?_
        refine j_iload_n (i := 1) (pc' := 86) dX8_descend_85 rfl rfl 1 rfl ?_
        obtain ⟨u5, e5, H⟩ := bs H
        obtain ⟨p6, e6, H⟩ := bs H
        refine j_cVl (y := yX8_grown) (dY := 3) (vs := [vl x3, vi v4, vi x1]) (st := []) (q := x0) (pc' := 89) dX8_descend_86 rfl ymX8_grown yvX8_grown ml_X8_82 (by omega) rfl (Nat.le_of_ble_eq_true rfl) (Nat.le_of_ble_eq_true rfl) e5 (tX8_grown x0 x3 v4 x1 h rx3 r4 rx1 e6) (fun r6 z6 => ?_)
        refine j_lstore (lv' := [(0, vr x0), (1, vi x1), (2, vi x2), (3, vl x3), (5, vi x5), (6, vi x6), (7, vi v4), (8, vl p6.1)]) (pc' := 91) dX8_descend_89 rfl (by decide) [1, 2, 3, 4, 5, 6, 7, 0] rfl ?_
        refine j_aload_n (i := 0) (pc' := 92) dX8_descend_91 rfl rfl 0 rfl ?_
        obtain ⟨v7, e7, H⟩ := bs H
        refine j_getI (pc' := 95) dX8_descend_92 rfl fl_X8_26 e7 (fun r7 => ?_)
        refine j_iconst (pc' := 96) dX8_descend_95 rfl ?_
        refine j_icmp_ne (tgt := 112) (pc' := 99) dX8_descend_96 (by decide) rfl r7 ⟨by decide, by decide⟩ (fun c8 => ?_) (fun c8 => ?_)
        · rw [if_neg c8] at H
          exact tX8_descend_112 hdS _ _ hs ih x0 x1 x2 x3 x5 x6 v4 p6.1 p6.2 rx1 rx2 rx3 rx5 rx6 r4 r6 H
        · rw [if_pos c8] at H
          refine j_lload (pc' := 101) dX8_descend_99 rfl 7 rfl ?_
          refine j_aload_n (i := 0) (pc' := 102) dX8_descend_101 rfl rfl 0 rfl ?_
          obtain ⟨v9, e9, H⟩ := bs H
          refine j_getL (pc' := 105) dX8_descend_102 rfl fl_X8_22 e9 (fun r9 => ?_)
          refine j_lcmp (pc' := 106) dX8_descend_105 rfl r6 r9 ?_
          refine j_if_lt (tgt := 112) (pc' := 109) dX8_descend_106 (by decide) rfl (R32_lcmp _ _) (fun c10 => ?_) (fun c10 => ?_)
          · rw [if_pos c10] at H
            exact tX8_descend_112 hdS _ _ hs ih x0 x1 x2 x3 x5 x6 v4 p6.1 p6.2 rx1 rx2 rx3 rx5 rx6 r4 r6 H
          · rw [if_neg c10] at H
            refine j_goto (tgt := 164) dX8_descend_109 (by decide) ?_
            refine j_sub (lv' := [(0, vr x0), (1, vi x1), (2, vi x2), (3, vl x3), (5, vi x5), (6, vi x6)]) [0, 1, 2, 3, 4, 5] rfl ?_
            exact tX8_descend_164 hdS _ _ hs ih x0 x1 x2 x3 x5 x6 p6.2 rx1 rx2 rx3 rx5 rx6 H
noncomputable def fX8_descend : Nat → Nat → Int → Int → Int → Hp → Option (Hp)
  | 0, _, _, _, _, _ => none
  | n + 1, a0, a1, a2, a3, h => (getR h 7 a0 3).bind fun v1 => (getI h 6 v1 0).bind fun v2 => if v2 ≤ a1 then (fX8_descend_17 (fX8_descend n) a0 a2 a3 h) else (if a1 < 12 then ((getR h 7 a0 3).bind fun v5 => (getI h 6 v5 0).bind fun v6 => (getI h 7 a0 6).bind fun v7 => (c32 ((a2 + v6) - a1)).bind fun _ => if v7 ≤ ((a2 + v6) - a1) then ((getI h 7 a0 7).bind fun v10 => (c32 (v10 - 1)).bind fun _ => fX8_descend_58 (fX8_descend n) FU a0 a1 a2 a3 (min a2 (v10 - 1)) 0 h) else (some h)) else (fX8_descend_17 (fX8_descend n) a0 a2 a3 h))
theorem tX8_descend_r {L : Nat} {xs : Nat → Int32} {l : Launch} : ∀ (n : Nat) (res : Hp) (a0 : Nat) (a1 : Int) (a2 : Int) (a3 : Int) (h : Hp), R32 a1 → R32 a2 → R64 a3 → fX8_descend n a0 a1 a2 a3 h = some res → J L xs l RX8 cX8_descend 10 false (3 + n) (QV res) 0 0 0 (alv 0 [vr a0, vi a1, vi a2, vl a3]) [] h := by
  intro n
  induction n with
  | zero => intro res a0 a1 a2 a3 h ra1 ra2 ra3 H; cases H
  | succ n ih =>
    intro res a0 a1 a2 a3 h ra1 ra2 ra3 H
    rw [fX8_descend] at H
    have hdS : 3 ≤ 3 + n := Nat.le_add_right _ _
    have hs := ih
    show J L xs l RX8 cX8_descend 10 false (3 + n + 1) (QV res) 0 0 0 [(0, vr a0), (1, vi a1), (2, vi a2), (3, vl a3)] [] h
    refine j_iload_n (i := 1) (pc' := 1) dX8_descend_0 rfl rfl 1 rfl ?_
    refine j_aload_n (i := 0) (pc' := 2) dX8_descend_1 rfl rfl 0 rfl ?_
    obtain ⟨v1, e1, H⟩ := bs H
    refine j_getR (pc' := 5) dX8_descend_2 rfl fl_X8_36 e1 (fun r1 => ?_)
    obtain ⟨v2, e2, H⟩ := bs H
    refine j_getI (pc' := 8) dX8_descend_5 rfl fl_X8_63 e2 (fun r2 => ?_)
    refine j_icmp_ge (tgt := 17) (pc' := 11) dX8_descend_8 (by decide) rfl ra1 r2 (fun c3 => ?_) (fun c3 => ?_)
    · rw [if_pos c3] at H
      refine j_sub (lv' := [(0, vr a0), (2, vi a2), (3, vl a3)]) [0, 2, 3] rfl ?_
      exact tX8_descend_17 hdS _ hs a0 a2 a3 h ra2 ra3 H
    · rw [if_neg c3] at H
      refine j_iload_n (i := 1) (pc' := 12) dX8_descend_11 rfl rfl 1 rfl ?_
      refine j_bipush (pc' := 14) dX8_descend_12 rfl (by decide +kernel) ?_
      refine j_icmp_lt (tgt := 24) (pc' := 17) dX8_descend_14 (by decide) rfl ra1 ⟨by decide, by decide⟩ (fun c4 => ?_) (fun c4 => ?_)
      · rw [if_pos c4] at H
        refine j_iload_n (i := 2) (pc' := 25) dX8_descend_24 rfl rfl 2 rfl ?_
        refine j_aload_n (i := 0) (pc' := 26) dX8_descend_25 rfl rfl 0 rfl ?_
        obtain ⟨v5, e5, H⟩ := bs H
        refine j_getR (pc' := 29) dX8_descend_26 rfl fl_X8_36 e5 (fun r5 => ?_)
        obtain ⟨v6, e6, H⟩ := bs H
        refine j_getI (pc' := 32) dX8_descend_29 rfl fl_X8_63 e6 (fun r6 => ?_)
        refine j_iadd (pc' := 33) dX8_descend_32 rfl ?_
        refine j_iload_n (i := 1) (pc' := 34) dX8_descend_33 rfl rfl 1 rfl ?_
        refine j_isub (pc' := 35) dX8_descend_34 rfl ?_
        refine j_aload_n (i := 0) (pc' := 36) dX8_descend_35 rfl rfl 0 rfl ?_
        obtain ⟨v7, e7, H⟩ := bs H
        refine j_getI (pc' := 39) dX8_descend_36 rfl fl_X8_30 e7 (fun r7 => ?_)
        obtain ⟨u8, e8, H⟩ := bs H
        have r8 := c32_R e8
        refine j_icmp_ge (tgt := 43) (pc' := 42) dX8_descend_39 (by decide) rfl r8 r7 (fun c9 => ?_) (fun c9 => ?_)
        · rw [if_pos c9] at H
          refine j_iload_n (i := 2) (pc' := 44) dX8_descend_43 rfl rfl 2 rfl ?_
          refine j_aload_n (i := 0) (pc' := 45) dX8_descend_44 rfl rfl 0 rfl ?_
          obtain ⟨v10, e10, H⟩ := bs H
          refine j_getI (pc' := 48) dX8_descend_45 rfl fl_X8_33 e10 (fun r10 => ?_)
          refine j_iconst (pc' := 49) dX8_descend_48 rfl ?_
          refine j_isub (pc' := 50) dX8_descend_49 rfl ?_
          obtain ⟨u11, e11, H⟩ := bs H
          have r11 := c32_R e11
          refine j_mmin (pc' := 53) dX8_descend_50 rfl ml_X8_68 (by omega) (Nat.le_of_ble_eq_true rfl) ra2 r11 ?_
          refine j_istore (lv' := [(0, vr a0), (1, vi a1), (2, vi a2), (3, vl a3), (5, vi (min a2 (v10 - 1)))]) (pc' := 55) dX8_descend_53 rfl (by decide) [1, 2, 3, 4, 0] rfl ?_
          refine j_iconst (pc' := 56) dX8_descend_55 rfl ?_
          refine j_istore (lv' := [(0, vr a0), (1, vi a1), (2, vi a2), (3, vl a3), (5, vi (min a2 (v10 - 1))), (6, vi 0)]) (pc' := 58) dX8_descend_56 rfl (by decide) [1, 2, 3, 4, 5, 0] rfl ?_
          exact tX8_descend_58 hdS _ hs FU a0 a1 a2 a3 (min a2 (v10 - 1)) 0 h ra1 ra2 ra3 (R32_min ra2 r11) ⟨by decide, by decide⟩ H
        · rw [if_neg c9] at H
          obtain rfl := Option.some.inj H
          exact j_vret dX8_descend_42 ⟨rfl, rfl⟩
      · rw [if_neg c4] at H
        refine j_sub (lv' := [(0, vr a0), (2, vi a2), (3, vl a3)]) [0, 2, 3] rfl ?_
        exact tX8_descend_17 hdS _ hs a0 a2 a3 h ra2 ra3 H
theorem tX8_descend {L : Nat} {xs : Nat → Int32} {l : Launch} {res : Hp} (a0 : Nat) (a1 : Int) (a2 : Int) (a3 : Int) (h : Hp) (ra1 : R32 a1) (ra2 : R32 a2) (ra3 : R64 a3) (H : fX8_descend 20 a0 a1 a2 a3 h = some res) : J L xs l RX8 cX8_descend 10 false 23 (QV res) 0 0 0 (alv 0 [vr a0, vi a1, vi a2, vl a3]) [] h := tX8_descend_r 20 res a0 a1 a2 a3 h ra1 ra2 ra3 H
-- X8_run
noncomputable def fX8_run_34 (x0 : Nat) (h : Hp) : Option (Int × Hp) :=
  (getR h 7 x0 1).bind fun v1 => (fJ7_fill_53178 v1 0 h).bind fun h2 => (getR h2 7 x0 3).bind fun v3 => (getI h2 7 x0 5).bind fun v4 => (fX0_ground v3 v4 h2).bind fun p5 => (cob p5.2 7 x0).bind fun _ => (fX8_descend 20 x0 0 0 p5.1 p5.2).bind fun h7 => (getL h7 7 x0 4).bind fun v8 => some (v8, h7)
theorem tX8_run_34 {L : Nat} {xs : Nat → Int32} {l : Launch} {res : Int × Hp} (x0 : Nat) (h : Hp)  (H : fX8_run_34 x0 h = some res) : J L xs l RX8 cX8_run 4 false 24 (QL res) 0 0 34 [(0, vr x0)] [] h := by
  unfold fX8_run_34 at H
  refine j_aload_n (i := 0) (pc' := 35) dX8_run_34 rfl rfl 0 rfl ?_
  obtain ⟨v1, e1, H⟩ := bs H
  refine j_getR (pc' := 38) dX8_run_35 rfl fl_X8_15 e1 (fun r1 => ?_)
  refine j_iconst (pc' := 39) dX8_run_38 rfl ?_
  obtain ⟨h2, e2, H⟩ := bs H
  refine j_cSv (y := yJ7_fill_53178) (dY := 1) (vs := [vr v1, vi 0]) (st := []) (pc' := 42) dX8_run_39 rfl ymJ7_fill_53178 ysJ7_fill_53178 ml_X8_47 (by decide) rfl (Nat.le_of_ble_eq_true rfl) (Nat.le_of_ble_eq_true rfl) (tJ7_fill_53178 v1 0 h ⟨by decide, by decide⟩ e2) (fun z2 => ?_)
  refine j_aload_n (i := 0) (pc' := 43) dX8_run_42 rfl rfl 0 rfl ?_
  refine j_iconst (pc' := 44) dX8_run_43 rfl ?_
  refine j_iconst (pc' := 45) dX8_run_44 rfl ?_
  refine j_aload_n (i := 0) (pc' := 46) dX8_run_45 rfl rfl 0 rfl ?_
  obtain ⟨v3, e3, H⟩ := bs H
  refine j_getR (pc' := 49) dX8_run_46 rfl fl_X8_36 e3 (fun r3 => ?_)
  refine j_aload_n (i := 0) (pc' := 50) dX8_run_49 rfl rfl 0 rfl ?_
  obtain ⟨v4, e4, H⟩ := bs H
  refine j_getI (pc' := 53) dX8_run_50 rfl fl_X8_26 e4 (fun r4 => ?_)
  obtain ⟨p5, e5, H⟩ := bs H
  refine j_cSl (y := yX0_ground) (dY := 2) (vs := [vr v3, vi v4]) (st := [vi 0, vi 0, vr x0]) (pc' := 56) dX8_run_53 rfl ymX0_ground ysX0_ground ml_X8_53 (by decide) rfl (Nat.le_of_ble_eq_true rfl) (Nat.le_of_ble_eq_true rfl) (tX0_ground v3 v4 h2 r4 e5) (fun r5 z5 => ?_)
  obtain ⟨u6, e6, H⟩ := bs H
  obtain ⟨h7, e7, H⟩ := bs H
  refine j_cVv (y := yX8_descend) (dY := 23) (vs := [vi 0, vi 0, vl p5.1]) (st := []) (q := x0) (pc' := 59) dX8_run_56 rfl ymX8_descend yvX8_descend ml_X8_59 (by decide) rfl (Nat.le_of_ble_eq_true rfl) (Nat.le_of_ble_eq_true rfl) e6 (tX8_descend x0 0 0 p5.1 p5.2 ⟨by decide, by decide⟩ ⟨by decide, by decide⟩ r5 e7) (fun z7 => ?_)
  refine j_aload_n (i := 0) (pc' := 60) dX8_run_59 rfl rfl 0 rfl ?_
  obtain ⟨v8, e8, H⟩ := bs H
  refine j_getL (pc' := 63) dX8_run_60 rfl fl_X8_22 e8 (fun r8 => ?_)
  obtain rfl := Option.some.inj H
  exact j_lret dX8_run_63 r8 ⟨rfl, rfl⟩
noncomputable def fX8_run (a0 : Nat) (a1 : Int) (a2 : Int) (a3 : Int) (h : Hp) : Option (Int × Hp) :=
  (putV h 7 a0 5 (vi a1)).bind fun h1 => (putV h1 7 a0 6 (vi a2)).bind fun h2 => (putV h2 7 a0 7 (vi a3)).bind fun h3 => (putV h3 7 a0 4 (vl 9223372036854775807)).bind fun h4 => (getI h4 7 a0 5).bind fun v5 => if v5 = 2 then (fX8_run_34 a0 h4) else ((cob h4 7 a0).bind fun _ => (fX8_costAllHeaps a0 h4).bind fun h8 => fX8_run_34 a0 h8)
theorem tX8_run {L : Nat} {xs : Nat → Int32} {l : Launch} {res : Int × Hp} (a0 : Nat) (a1 : Int) (a2 : Int) (a3 : Int) (h : Hp) (ra1 : R32 a1) (ra2 : R32 a2) (ra3 : R32 a3) (H : fX8_run a0 a1 a2 a3 h = some res) : J L xs l RX8 cX8_run 4 false 24 (QL res) 0 0 0 (alv 0 [vr a0, vi a1, vi a2, vi a3]) [] h := by
  unfold fX8_run at H
  show J L xs l RX8 cX8_run 4 false 24 (QL res) 0 0 0 [(0, vr a0), (1, vi a1), (2, vi a2), (3, vi a3)] [] h
  refine j_aload_n (i := 0) (pc' := 1) dX8_run_0 rfl rfl 0 rfl ?_
  refine j_iload_n (i := 1) (pc' := 2) dX8_run_1 rfl rfl 1 rfl ?_
  obtain ⟨h1, e1, H⟩ := bs H
  refine j_putV (pc' := 5) dX8_run_2 rfl fp_X8_26 tI ra1 e1 ?_
  refine j_aload_n (i := 0) (pc' := 6) dX8_run_5 rfl rfl 0 rfl ?_
  refine j_iload_n (i := 2) (pc' := 7) dX8_run_6 rfl rfl 2 rfl ?_
  obtain ⟨h2, e2, H⟩ := bs H
  refine j_putV (pc' := 10) dX8_run_7 rfl fp_X8_30 tI ra2 e2 ?_
  refine j_aload_n (i := 0) (pc' := 11) dX8_run_10 rfl rfl 0 rfl ?_
  refine j_iload_n (i := 3) (pc' := 12) dX8_run_11 rfl rfl 3 rfl ?_
  obtain ⟨h3, e3, H⟩ := bs H
  refine j_putV (pc' := 15) dX8_run_12 rfl fp_X8_33 tI ra3 e3 ?_
  refine j_aload_n (i := 0) (pc' := 16) dX8_run_15 rfl rfl 0 rfl ?_
  refine j_ldc2 (z := 9223372036854775807) (pc' := 19) dX8_run_16 rfl kk_X8_42 (by decide +kernel) ?_
  obtain ⟨h4, e4, H⟩ := bs H
  refine j_putV (pc' := 22) dX8_run_19 rfl fp_X8_22 tL ⟨by decide, by decide⟩ e4 ?_
  refine j_aload_n (i := 0) (pc' := 23) dX8_run_22 rfl rfl 0 rfl ?_
  obtain ⟨v5, e5, H⟩ := bs H
  refine j_getI (pc' := 26) dX8_run_23 rfl fl_X8_26 e5 (fun r5 => ?_)
  refine j_iconst (pc' := 27) dX8_run_26 rfl ?_
  refine j_icmp_eq (tgt := 34) (pc' := 30) dX8_run_27 (by decide) rfl r5 ⟨by decide, by decide⟩ (fun c6 => ?_) (fun c6 => ?_)
  · rw [if_pos c6] at H
    refine j_sub (lv' := [(0, vr a0)]) [0] rfl ?_
    exact tX8_run_34   a0 h4  H
  · rw [if_neg c6] at H
    refine j_aload_n (i := 0) (pc' := 31) dX8_run_30 rfl rfl 0 rfl ?_
    obtain ⟨u7, e7, H⟩ := bs H
    obtain ⟨h8, e8, H⟩ := bs H
    refine j_cVv (y := yX8_costAllHeaps) (dY := 5) (vs := []) (st := []) (q := a0) (pc' := 34) dX8_run_31 rfl ymX8_costAllHeaps yvX8_costAllHeaps ml_X8_44 (by decide) rfl (Nat.le_of_ble_eq_true rfl) (Nat.le_of_ble_eq_true rfl) e7 (tX8_costAllHeaps a0 h4 e8) (fun z8 => ?_)
    refine j_sub (lv' := [(0, vr a0)]) [0] rfl ?_
    exact tX8_run_34   a0 h8  H
-- X9_init
noncomputable def fX9_init (a0 : Nat) (h : Hp) : Option (Hp) :=
  (cob h 8 a0).bind fun _ => (putV h 8 a0 0 (vi (-1))).bind fun h2 => (putV h2 8 a0 1 (vi (-1))).bind fun h3 => (crf h3 a0).bind fun _ => (newO h3 (arr 1 8 (fun _ => 0))).bind fun p5 => (crf p5.2 p5.1).bind fun _ => (putV p5.2 8 a0 2 (vr p5.1)).bind fun h7 => some h7
theorem tX9_init {L : Nat} {xs : Nat → Int32} {l : Launch} {res : Hp} (a0 : Nat) (h : Hp)  (H : fX9_init a0 h = some res) : J L xs l RX9 cX9_init 1 true 1 (QV res) 1 8 0 (alv 0 [vr a0]) [] h := by
  unfold fX9_init at H
  show J L xs l RX9 cX9_init 1 true 1 (QV res) 1 8 0 [(0, vr a0)] [] h
  refine j_aload_n (i := 0) (pc' := 1) dX9_init_0 rfl rfl 0 rfl ?_
  obtain ⟨u1, e1, H⟩ := bs H
  refine j_objInit (pc' := 4) dX9_init_1 rfl ml_X9_3 oi_1 oi_2 (by decide) e1 (Nat.le_of_ble_eq_true rfl) ?_
  refine j_aload_n (i := 0) (pc' := 5) dX9_init_4 rfl rfl 0 rfl ?_
  refine j_iconst (pc' := 6) dX9_init_5 rfl ?_
  obtain ⟨h2, e2, H⟩ := bs H
  refine j_putV (pc' := 9) dX9_init_6 rfl fp_X9_9 tI ⟨by decide, by decide⟩ e2 ?_
  refine j_aload_n (i := 0) (pc' := 10) dX9_init_9 rfl rfl 0 rfl ?_
  refine j_iconst (pc' := 11) dX9_init_10 rfl ?_
  obtain ⟨h3, e3, H⟩ := bs H
  refine j_putV (pc' := 14) dX9_init_11 rfl fp_X9_15 tI ⟨by decide, by decide⟩ e3 ?_
  refine j_aload_n (i := 0) (pc' := 15) dX9_init_14 rfl rfl 0 rfl ?_
  refine j_bipush (pc' := 17) dX9_init_15 rfl (by decide +kernel) ?_
  obtain ⟨u4, e4, H⟩ := bs H
  obtain ⟨p5, e5, H⟩ := bs H
  refine j_newLp (N := 8) (rc := 0) (rs := 0) (pc' := 19) rfl (by decide) dX9_init_17 rfl ak_long ⟨(crf_R e4), trivial⟩ ⟨(crf_R e4), trivial⟩ e5 ?_
  obtain ⟨u6, e6, H⟩ := bs H
  obtain ⟨h7, e7, H⟩ := bs H
  refine j_putF (pc' := 22) dX9_init_19 rfl rfl fp_X9_18 tR (crf_R e6) e7 ?_
  obtain rfl := Option.some.inj H
  exact j_vret dX9_init_22 ⟨rfl, rfl⟩
-- X9_renew
noncomputable def fX9_renew (a0 : Nat) (a1 : Int) (a2 : Int) (h : Hp) : Option (Hp) :=
  (putV h 8 a0 0 (vi a1)).bind fun h1 => (putV h1 8 a0 1 (vi a2)).bind fun h2 => (getR h2 8 a0 2).bind fun v3 => (fJ7_fill_d0a16 v3 0 h2).bind fun h4 => some h4
theorem tX9_renew {L : Nat} {xs : Nat → Int32} {l : Launch} {res : Hp} (a0 : Nat) (a1 : Int) (a2 : Int) (h : Hp) (ra1 : R32 a1) (ra2 : R32 a2) (H : fX9_renew a0 a1 a2 h = some res) : J L xs l RX9 cX9_renew 3 false 2 (QV res) 0 0 0 (alv 0 [vr a0, vi a1, vi a2]) [] h := by
  unfold fX9_renew at H
  show J L xs l RX9 cX9_renew 3 false 2 (QV res) 0 0 0 [(0, vr a0), (1, vi a1), (2, vi a2)] [] h
  refine j_aload_n (i := 0) (pc' := 1) dX9_renew_0 rfl rfl 0 rfl ?_
  refine j_iload_n (i := 1) (pc' := 2) dX9_renew_1 rfl rfl 1 rfl ?_
  obtain ⟨h1, e1, H⟩ := bs H
  refine j_putV (pc' := 5) dX9_renew_2 rfl fp_X9_9 tI ra1 e1 ?_
  refine j_aload_n (i := 0) (pc' := 6) dX9_renew_5 rfl rfl 0 rfl ?_
  refine j_iload_n (i := 2) (pc' := 7) dX9_renew_6 rfl rfl 2 rfl ?_
  obtain ⟨h2, e2, H⟩ := bs H
  refine j_putV (pc' := 10) dX9_renew_7 rfl fp_X9_15 tI ra2 e2 ?_
  refine j_aload_n (i := 0) (pc' := 11) dX9_renew_10 rfl rfl 0 rfl ?_
  obtain ⟨v3, e3, H⟩ := bs H
  refine j_getR (pc' := 14) dX9_renew_11 rfl fl_X9_18 e3 (fun r3 => ?_)
  refine j_lconst (z := 0) (pc' := 15) dX9_renew_14 rfl rfl ?_
  obtain ⟨h4, e4, H⟩ := bs H
  refine j_cSv (y := yJ7_fill_d0a16) (dY := 1) (vs := [vr v3, vl 0]) (st := []) (pc' := 18) dX9_renew_15 rfl ymJ7_fill_d0a16 ysJ7_fill_d0a16 ml_X9_22 (by decide) rfl (Nat.le_of_ble_eq_true rfl) (Nat.le_of_ble_eq_true rfl) (tJ7_fill_d0a16 v3 0 h2 ⟨by decide, by decide⟩ e4) (fun z4 => ?_)
  obtain rfl := Option.some.inj H
  exact j_vret dX9_renew_18 ⟨rfl, rfl⟩
-- X9_drop
noncomputable def fX9_drop (a0 : Nat) (h : Hp) : Option (Hp) :=
  (cob h 8 a0).bind fun _ => (fX9_renew a0 (-1) (-1) h).bind fun h2 => some h2
theorem tX9_drop {L : Nat} {xs : Nat → Int32} {l : Launch} {res : Hp} (a0 : Nat) (h : Hp)  (H : fX9_drop a0 h = some res) : J L xs l RX9 cX9_drop 1 false 3 (QV res) 0 0 0 (alv 0 [vr a0]) [] h := by
  unfold fX9_drop at H
  show J L xs l RX9 cX9_drop 1 false 3 (QV res) 0 0 0 [(0, vr a0)] [] h
  refine j_aload_n (i := 0) (pc' := 1) dX9_drop_0 rfl rfl 0 rfl ?_
  refine j_iconst (pc' := 2) dX9_drop_1 rfl ?_
  refine j_iconst (pc' := 3) dX9_drop_2 rfl ?_
  obtain ⟨u1, e1, H⟩ := bs H
  obtain ⟨h2, e2, H⟩ := bs H
  refine j_cVv (y := yX9_renew) (dY := 2) (vs := [vi (-1), vi (-1)]) (st := []) (q := a0) (pc' := 6) dX9_drop_3 rfl ymX9_renew yvX9_renew ml_X9_28 (by decide) rfl (Nat.le_of_ble_eq_true rfl) (Nat.le_of_ble_eq_true rfl) e1 (tX9_renew a0 (-1) (-1) h ⟨by decide, by decide⟩ ⟨by decide, by decide⟩ e2) (fun z2 => ?_)
  obtain rfl := Option.some.inj H
  exact j_vret dX9_drop_6 ⟨rfl, rfl⟩
-- X9_write
noncomputable def fX9_write_77  (h : Hp) : Option (Hp) :=
  some h
theorem tX9_write_77 {L : Nat} {xs : Nat → Int32} {l : Launch} {res : Hp}  (h : Hp)  (H : fX9_write_77  h = some res) : J L xs l RX9 cX9_write 4 false 1 (QV res) 0 0 77 [] [] h := by
  unfold fX9_write_77 at H
  obtain rfl := Option.some.inj H
  exact j_vret dX9_write_77 ⟨rfl, rfl⟩
noncomputable def fX9_write (a0 : Nat) (a1 : Int) (a2 : Int) (h : Hp) : Option (Hp) :=
  (getI h 8 a0 0).bind fun v1 => if v1 = 0 then ((getR h 8 a0 2).bind fun v3 => (ast h 1 v3 a1 (w8 (l2w a2))).bind fun h4 => fX9_write_77 h4) else if v1 = 1 then ((getR h 8 a0 2).bind fun v6 => (ast h 1 v6 a1 (w16 (l2w a2))).bind fun h7 => fX9_write_77 h7) else if v1 = 2 then ((getR h 8 a0 2).bind fun v9 => (ast h 1 v9 a1 (l2w a2)).bind fun h10 => fX9_write_77 h10) else ((getR h 8 a0 2).bind fun v11 => (ast h 1 v11 a1 a2).bind fun h12 => fX9_write_77 h12)
theorem tX9_write {L : Nat} {xs : Nat → Int32} {l : Launch} {res : Hp} (a0 : Nat) (a1 : Int) (a2 : Int) (h : Hp) (ra1 : R32 a1) (ra2 : R64 a2) (H : fX9_write a0 a1 a2 h = some res) : J L xs l RX9 cX9_write 4 false 1 (QV res) 0 0 0 (alv 0 [vr a0, vi a1, vl a2]) [] h := by
  unfold fX9_write at H
  show J L xs l RX9 cX9_write 4 false 1 (QV res) 0 0 0 [(0, vr a0), (1, vi a1), (2, vl a2)] [] h
  refine j_aload_n (i := 0) (pc' := 1) dX9_write_0 rfl rfl 0 rfl ?_
  obtain ⟨v1, e1, H⟩ := bs H
  refine j_getI (pc' := 4) dX9_write_1 rfl fl_X9_9 e1 (fun r1 => ?_)
  by_cases c2 : v1 = 0
  · rw [if_pos c2] at H
    refine j_tabIn (tgt := 32) (off := 28) dX9_write_4 r1 (by omega) (by omega) (by rw [c2]; rfl) (by decide) ?_
    refine j_aload_n (i := 0) (pc' := 33) dX9_write_32 rfl rfl 0 rfl ?_
    obtain ⟨v3, e3, H⟩ := bs H
    refine j_getR (pc' := 36) dX9_write_33 rfl fl_X9_18 e3 (fun r3 => ?_)
    refine j_iload_n (i := 1) (pc' := 37) dX9_write_36 rfl rfl 1 rfl ?_
    refine j_lload_n (i := 2) (pc' := 38) dX9_write_37 rfl rfl 2 rfl ?_
    refine j_l2i (pc' := 39) dX9_write_38 rfl ?_
    refine j_i2b (pc' := 40) dX9_write_39 rfl ?_
    refine j_i2l (pc' := 41) dX9_write_40 rfl (R32_to _) ?_
    obtain ⟨h4, e4, H⟩ := bs H
    refine j_last (pc' := 42) dX9_write_41 rfl (R32_l (R32_to _)) e4 ?_
    refine j_goto (tgt := 77) dX9_write_42 (by decide) ?_
    refine j_sub (lv' := []) [] rfl ?_
    exact tX9_write_77   h4  H
  rw [if_neg c2] at H
  by_cases c5 : v1 = 1
  · rw [if_pos c5] at H
    refine j_tabIn (tgt := 45) (off := 41) dX9_write_4 r1 (by omega) (by omega) (by rw [c5]; rfl) (by decide) ?_
    refine j_aload_n (i := 0) (pc' := 46) dX9_write_45 rfl rfl 0 rfl ?_
    obtain ⟨v6, e6, H⟩ := bs H
    refine j_getR (pc' := 49) dX9_write_46 rfl fl_X9_18 e6 (fun r6 => ?_)
    refine j_iload_n (i := 1) (pc' := 50) dX9_write_49 rfl rfl 1 rfl ?_
    refine j_lload_n (i := 2) (pc' := 51) dX9_write_50 rfl rfl 2 rfl ?_
    refine j_l2i (pc' := 52) dX9_write_51 rfl ?_
    refine j_i2s (pc' := 53) dX9_write_52 rfl ?_
    refine j_i2l (pc' := 54) dX9_write_53 rfl (R32_to _) ?_
    obtain ⟨h7, e7, H⟩ := bs H
    refine j_last (pc' := 55) dX9_write_54 rfl (R32_l (R32_to _)) e7 ?_
    refine j_goto (tgt := 77) dX9_write_55 (by decide) ?_
    refine j_sub (lv' := []) [] rfl ?_
    exact tX9_write_77   h7  H
  rw [if_neg c5] at H
  by_cases c8 : v1 = 2
  · rw [if_pos c8] at H
    refine j_tabIn (tgt := 58) (off := 54) dX9_write_4 r1 (by omega) (by omega) (by rw [c8]; rfl) (by decide) ?_
    refine j_aload_n (i := 0) (pc' := 59) dX9_write_58 rfl rfl 0 rfl ?_
    obtain ⟨v9, e9, H⟩ := bs H
    refine j_getR (pc' := 62) dX9_write_59 rfl fl_X9_18 e9 (fun r9 => ?_)
    refine j_iload_n (i := 1) (pc' := 63) dX9_write_62 rfl rfl 1 rfl ?_
    refine j_lload_n (i := 2) (pc' := 64) dX9_write_63 rfl rfl 2 rfl ?_
    refine j_l2i (pc' := 65) dX9_write_64 rfl ?_
    refine j_i2l (pc' := 66) dX9_write_65 rfl (R32_to _) ?_
    obtain ⟨h10, e10, H⟩ := bs H
    refine j_last (pc' := 67) dX9_write_66 rfl (R32_l (R32_to _)) e10 ?_
    refine j_goto (tgt := 77) dX9_write_67 (by decide) ?_
    refine j_sub (lv' := []) [] rfl ?_
    exact tX9_write_77   h10  H
  rw [if_neg c8] at H
  refine j_tabOut (tgt := 70) dX9_write_4 r1 (by omega) (by decide) ?_
  refine j_aload_n (i := 0) (pc' := 71) dX9_write_70 rfl rfl 0 rfl ?_
  obtain ⟨v11, e11, H⟩ := bs H
  refine j_getR (pc' := 74) dX9_write_71 rfl fl_X9_18 e11 (fun r11 => ?_)
  refine j_iload_n (i := 1) (pc' := 75) dX9_write_74 rfl rfl 1 rfl ?_
  refine j_lload_n (i := 2) (pc' := 76) dX9_write_75 rfl rfl 2 rfl ?_
  obtain ⟨h12, e12, H⟩ := bs H
  refine j_last (pc' := 77) dX9_write_76 rfl ra2 e12 ?_
  refine j_sub (lv' := []) [] rfl ?_
  exact tX9_write_77   h12  H
-- X9_isPlace
noncomputable def fX9_isPlace_41  (h : Hp) : Option (Int × Hp) :=
  some (1, h)
theorem tX9_isPlace_41 {L : Nat} {xs : Nat → Int32} {l : Launch} {res : Int × Hp}  (h : Hp)  (H : fX9_isPlace_41  h = some res) : J L xs l RX9 cX9_isPlace 2 false 1 (QB res) 0 0 41 [] [] h := by
  unfold fX9_isPlace_41 at H
  refine j_iconst (pc' := 42) dX9_isPlace_41 rfl ?_
  obtain rfl := Option.some.inj H
  exact j_iret dX9_isPlace_42 ⟨by decide, by decide⟩ ⟨rfl, rfl, Or.inr rfl⟩
noncomputable def fX9_isPlace_33  (h : Hp) : Option (Int × Hp) :=
  some (0, h)
theorem tX9_isPlace_33 {L : Nat} {xs : Nat → Int32} {l : Launch} {res : Int × Hp}  (h : Hp)  (H : fX9_isPlace_33  h = some res) : J L xs l RX9 cX9_isPlace 2 false 1 (QB res) 0 0 33 [] [] h := by
  unfold fX9_isPlace_33 at H
  refine j_iconst (pc' := 34) dX9_isPlace_33 rfl ?_
  obtain rfl := Option.some.inj H
  exact j_iret dX9_isPlace_34 ⟨by decide, by decide⟩ ⟨rfl, rfl, Or.inl rfl⟩
noncomputable def fX9_isPlace_2 : Nat → Nat → Int → Hp → Option (Int × Hp)
  | 0, _, _, _ => none
  | n + 1, x0, x1, h => if 4 ≤ x1 then (fX9_isPlace_41 h) else ((getR h 8 x0 2).bind fun v2 => (ald h 1 v2 x1).bind fun v3 => if (lCmp v3 (-1000)) < 0 then (fX9_isPlace_33 h) else ((getR h 8 x0 2).bind fun v5 => (ald h 1 v5 x1).bind fun v6 => if (lCmp v6 1000) ≤ 0 then ((c32 (x1 + 1)).bind fun _ => fX9_isPlace_2 n x0 (x1 + 1) h) else (fX9_isPlace_33 h)))
theorem tX9_isPlace_2 {L : Nat} {xs : Nat → Int32} {l : Launch} {res : Int × Hp} : ∀ (n : Nat) (x0 : Nat) (x1 : Int) (h : Hp), R32 x1 → fX9_isPlace_2 n x0 x1 h = some res → J L xs l RX9 cX9_isPlace 2 false 1 (QB res) 0 0 2 [(0, vr x0), (1, vi x1)] [] h := by
  intro n
  induction n with
  | zero => intro x0 x1 h rx1 H; cases H
  | succ n ih =>
    intro x0 x1 h rx1 H
    rw [fX9_isPlace_2] at H
    refine j_iload_n (i := 1) (pc' := 3) dX9_isPlace_2 rfl rfl 1 rfl ?_
    refine j_iconst (pc' := 4) dX9_isPlace_3 rfl ?_
    refine j_icmp_ge (tgt := 41) (pc' := 7) dX9_isPlace_4 (by decide) rfl rx1 ⟨by decide, by decide⟩ (fun c1 => ?_) (fun c1 => ?_)
    · rw [if_pos c1] at H
      refine j_sub (lv' := []) [] rfl ?_
      exact tX9_isPlace_41   h  H
    · rw [if_neg c1] at H
      refine j_aload_n (i := 0) (pc' := 8) dX9_isPlace_7 rfl rfl 0 rfl ?_
      obtain ⟨v2, e2, H⟩ := bs H
      refine j_getR (pc' := 11) dX9_isPlace_8 rfl fl_X9_18 e2 (fun r2 => ?_)
      refine j_iload_n (i := 1) (pc' := 12) dX9_isPlace_11 rfl rfl 1 rfl ?_
      obtain ⟨v3, e3, H⟩ := bs H
      refine j_lald (pc' := 13) dX9_isPlace_12 rfl e3 (fun r3 => ?_)
      refine j_ldc2 (z := (-1000)) (pc' := 16) dX9_isPlace_13 rfl kk_X9_32 (by decide +kernel) ?_
      refine j_lcmp (pc' := 17) dX9_isPlace_16 rfl r3 ⟨by decide, by decide⟩ ?_
      refine j_if_lt (tgt := 33) (pc' := 20) dX9_isPlace_17 (by decide) rfl (R32_lcmp _ _) (fun c4 => ?_) (fun c4 => ?_)
      · rw [if_pos c4] at H
        refine j_sub (lv' := []) [] rfl ?_
        exact tX9_isPlace_33   h  H
      · rw [if_neg c4] at H
        refine j_aload_n (i := 0) (pc' := 21) dX9_isPlace_20 rfl rfl 0 rfl ?_
        obtain ⟨v5, e5, H⟩ := bs H
        refine j_getR (pc' := 24) dX9_isPlace_21 rfl fl_X9_18 e5 (fun r5 => ?_)
        refine j_iload_n (i := 1) (pc' := 25) dX9_isPlace_24 rfl rfl 1 rfl ?_
        obtain ⟨v6, e6, H⟩ := bs H
        refine j_lald (pc' := 26) dX9_isPlace_25 rfl e6 (fun r6 => ?_)
        refine j_ldc2 (z := 1000) (pc' := 29) dX9_isPlace_26 rfl kk_X9_34 (by decide +kernel) ?_
        refine j_lcmp (pc' := 30) dX9_isPlace_29 rfl r6 ⟨by decide, by decide⟩ ?_
        refine j_if_le (tgt := 35) (pc' := 33) dX9_isPlace_30 (by decide) rfl (R32_lcmp _ _) (fun c7 => ?_) (fun c7 => ?_)
        · rw [if_pos c7] at H
          obtain ⟨u8, e8, H⟩ := bs H
          have r8 := c32_R e8
          refine j_iinc (k0 := 1) (lv' := [(0, vr x0), (1, vi (x1 + 1))]) (pc' := 38) dX9_isPlace_35 rfl rfl (by decide) [1, 0] rfl ?_
          refine j_goto (tgt := 2) dX9_isPlace_38 (by decide) ?_
          exact ih x0 (x1 + 1) h r8 H
        · rw [if_neg c7] at H
          refine j_sub (lv' := []) [] rfl ?_
          exact tX9_isPlace_33   h  H
noncomputable def fX9_isPlace (a0 : Nat) (h : Hp) : Option (Int × Hp) :=
  fX9_isPlace_2 FU a0 0 h
theorem tX9_isPlace {L : Nat} {xs : Nat → Int32} {l : Launch} {res : Int × Hp} (a0 : Nat) (h : Hp)  (H : fX9_isPlace a0 h = some res) : J L xs l RX9 cX9_isPlace 2 false 1 (QB res) 0 0 0 (alv 0 [vr a0]) [] h := by
  unfold fX9_isPlace at H
  show J L xs l RX9 cX9_isPlace 2 false 1 (QB res) 0 0 0 [(0, vr a0)] [] h
  refine j_iconst (pc' := 1) dX9_isPlace_0 rfl ?_
  refine j_istore_n (i := 1) (lv' := [(0, vr a0), (1, vi 0)]) (pc' := 2) dX9_isPlace_1 rfl rfl (by decide) [1, 0] rfl ?_
  exact tX9_isPlace_2   FU a0 0 h ⟨by decide, by decide⟩ H
-- X10_init
noncomputable def fX10_init (a0 : Nat) (h : Hp) : Option (Hp) :=
  (cob h 9 a0).bind fun _ => (putV h 9 a0 0 (vi (-1))).bind fun h2 => (putV h2 9 a0 1 (vi 0)).bind fun h3 => (crf h3 a0).bind fun _ => (newO h3 (arr 0 12 (fun _ => 0))).bind fun p5 => (crf p5.2 p5.1).bind fun _ => (putV p5.2 9 a0 2 (vr p5.1)).bind fun h7 => (crf h7 a0).bind fun _ => (newO h7 (arr 0 12 (fun _ => 0))).bind fun p9 => (crf p9.2 p9.1).bind fun _ => (putV p9.2 9 a0 3 (vr p9.1)).bind fun h11 => (crf h11 a0).bind fun _ => (newO h11 (arr 0 12 (fun _ => 0))).bind fun p13 => (crf p13.2 p13.1).bind fun _ => (putV p13.2 9 a0 4 (vr p13.1)).bind fun h15 => (crf h15 a0).bind fun _ => (newO h15 (arr 0 144 (fun _ => 0))).bind fun p17 => (crf p17.2 p17.1).bind fun _ => (putV p17.2 9 a0 5 (vr p17.1)).bind fun h19 => (putV h19 9 a0 6 (vi 0)).bind fun h20 => some h20
theorem tX10_init {L : Nat} {xs : Nat → Int32} {l : Launch} {res : Hp} (a0 : Nat) (h : Hp)  (H : fX10_init a0 h = some res) : J L xs l RX10 cX10_init 1 true 1 (QV res) 4 180 0 (alv 0 [vr a0]) [] h := by
  unfold fX10_init at H
  show J L xs l RX10 cX10_init 1 true 1 (QV res) 4 180 0 [(0, vr a0)] [] h
  refine j_aload_n (i := 0) (pc' := 1) dX10_init_0 rfl rfl 0 rfl ?_
  obtain ⟨u1, e1, H⟩ := bs H
  refine j_objInit (pc' := 4) dX10_init_1 rfl ml_X10_3 oi_1 oi_2 (by decide) e1 (Nat.le_of_ble_eq_true rfl) ?_
  refine j_aload_n (i := 0) (pc' := 5) dX10_init_4 rfl rfl 0 rfl ?_
  refine j_iconst (pc' := 6) dX10_init_5 rfl ?_
  obtain ⟨h2, e2, H⟩ := bs H
  refine j_putV (pc' := 9) dX10_init_6 rfl fp_X10_9 tI ⟨by decide, by decide⟩ e2 ?_
  refine j_aload_n (i := 0) (pc' := 10) dX10_init_9 rfl rfl 0 rfl ?_
  refine j_iconst (pc' := 11) dX10_init_10 rfl ?_
  obtain ⟨h3, e3, H⟩ := bs H
  refine j_putV (pc' := 14) dX10_init_11 rfl fp_X10_15 tI ⟨by decide, by decide⟩ e3 ?_
  refine j_aload_n (i := 0) (pc' := 15) dX10_init_14 rfl rfl 0 rfl ?_
  refine j_bipush (pc' := 17) dX10_init_15 rfl (by decide +kernel) ?_
  obtain ⟨u4, e4, H⟩ := bs H
  obtain ⟨p5, e5, H⟩ := bs H
  refine j_newIp (N := 12) (rc := 3) (rs := 168) (pc' := 19) rfl (by decide) dX10_init_17 rfl ak_int ⟨(crf_R e4), trivial⟩ ⟨(crf_R e4), trivial⟩ e5 ?_
  obtain ⟨u6, e6, H⟩ := bs H
  obtain ⟨h7, e7, H⟩ := bs H
  refine j_putF (pc' := 22) dX10_init_19 rfl rfl fp_X10_18 tR (crf_R e6) e7 ?_
  refine j_aload_n (i := 0) (pc' := 23) dX10_init_22 rfl rfl 0 rfl ?_
  refine j_bipush (pc' := 25) dX10_init_23 rfl (by decide +kernel) ?_
  obtain ⟨u8, e8, H⟩ := bs H
  obtain ⟨p9, e9, H⟩ := bs H
  refine j_newIp (N := 12) (rc := 2) (rs := 156) (pc' := 27) rfl (by decide) dX10_init_25 rfl ak_int ⟨(crf_R e8), trivial⟩ ⟨(crf_R e8), trivial⟩ e9 ?_
  obtain ⟨u10, e10, H⟩ := bs H
  obtain ⟨h11, e11, H⟩ := bs H
  refine j_putF (pc' := 30) dX10_init_27 rfl rfl fp_X10_22 tR (crf_R e10) e11 ?_
  refine j_aload_n (i := 0) (pc' := 31) dX10_init_30 rfl rfl 0 rfl ?_
  refine j_bipush (pc' := 33) dX10_init_31 rfl (by decide +kernel) ?_
  obtain ⟨u12, e12, H⟩ := bs H
  obtain ⟨p13, e13, H⟩ := bs H
  refine j_newIp (N := 12) (rc := 1) (rs := 144) (pc' := 35) rfl (by decide) dX10_init_33 rfl ak_int ⟨(crf_R e12), trivial⟩ ⟨(crf_R e12), trivial⟩ e13 ?_
  obtain ⟨u14, e14, H⟩ := bs H
  obtain ⟨h15, e15, H⟩ := bs H
  refine j_putF (pc' := 38) dX10_init_35 rfl rfl fp_X10_25 tR (crf_R e14) e15 ?_
  refine j_aload_n (i := 0) (pc' := 39) dX10_init_38 rfl rfl 0 rfl ?_
  refine j_sipush (pc' := 42) dX10_init_39 rfl (by decide +kernel) ?_
  obtain ⟨u16, e16, H⟩ := bs H
  obtain ⟨p17, e17, H⟩ := bs H
  refine j_newIp (N := 144) (rc := 0) (rs := 0) (pc' := 44) rfl (by decide) dX10_init_42 rfl ak_int ⟨(crf_R e16), trivial⟩ ⟨(crf_R e16), trivial⟩ e17 ?_
  obtain ⟨u18, e18, H⟩ := bs H
  obtain ⟨h19, e19, H⟩ := bs H
  refine j_putF (pc' := 47) dX10_init_44 rfl rfl fp_X10_28 tR (crf_R e18) e19 ?_
  refine j_aload_n (i := 0) (pc' := 48) dX10_init_47 rfl rfl 0 rfl ?_
  refine j_iconst (pc' := 49) dX10_init_48 rfl ?_
  obtain ⟨h20, e20, H⟩ := bs H
  refine j_putV (pc' := 52) dX10_init_49 rfl fp_X10_31 tI ⟨by decide, by decide⟩ e20 ?_
  obtain rfl := Option.some.inj H
  exact j_vret dX10_init_52 ⟨rfl, rfl⟩
-- X10_drop
noncomputable def fX10_drop (a0 : Nat) (h : Hp) : Option (Hp) :=
  (putV h 9 a0 0 (vi (-1))).bind fun h1 => some h1
theorem tX10_drop {L : Nat} {xs : Nat → Int32} {l : Launch} {res : Hp} (a0 : Nat) (h : Hp)  (H : fX10_drop a0 h = some res) : J L xs l RX10 cX10_drop 1 false 1 (QV res) 0 0 0 (alv 0 [vr a0]) [] h := by
  unfold fX10_drop at H
  show J L xs l RX10 cX10_drop 1 false 1 (QV res) 0 0 0 [(0, vr a0)] [] h
  refine j_aload_n (i := 0) (pc' := 1) dX10_drop_0 rfl rfl 0 rfl ?_
  refine j_iconst (pc' := 2) dX10_drop_1 rfl ?_
  obtain ⟨h1, e1, H⟩ := bs H
  refine j_putV (pc' := 5) dX10_drop_2 rfl fp_X10_9 tI ⟨by decide, by decide⟩ e1 ?_
  obtain rfl := Option.some.inj H
  exact j_vret dX10_drop_5 ⟨rfl, rfl⟩
-- X10_findLowest
noncomputable def fX10_findLowest_122  (h : Hp) : Option (Hp) :=
  some h
theorem tX10_findLowest_122 {L : Nat} {xs : Nat → Int32} {l : Launch} {res : Hp}  (h : Hp)  (H : fX10_findLowest_122  h = some res) : J L xs l RX10 cX10_findLowest 4 false 2 (QV res) 0 0 122 [] [] h := by
  unfold fX10_findLowest_122 at H
  obtain rfl := Option.some.inj H
  exact j_vret dX10_findLowest_122 ⟨rfl, rfl⟩
noncomputable def fX10_findLowest_116 (k13 : Nat → Int → Hp → Option (Hp)) (x0 : Nat) (x1 : Int) (h : Hp) : Option (Hp) :=
  (c32 (x1 + 1)).bind fun _ => k13 x0 (x1 + 1) h
theorem tX10_findLowest_116 {L : Nat} {xs : Nat → Int32} {l : Launch} {res : Hp} (k13 : Nat → Int → Hp → Option (Hp)) (hk13 : ∀ (x0 : Nat) (x1 : Int) (h : Hp), R32 x1 → k13 x0 x1 h = some res → J L xs l RX10 cX10_findLowest 4 false 2 (QV res) 0 0 13 [(0, vr x0), (1, vi x1)] [] h) (x0 : Nat) (x1 : Int) (h : Hp) (rx1 : R32 x1) (H : fX10_findLowest_116 k13 x0 x1 h = some res) : J L xs l RX10 cX10_findLowest 4 false 2 (QV res) 0 0 116 [(0, vr x0), (1, vi x1)] [] h := by
  unfold fX10_findLowest_116 at H
  obtain ⟨u1, e1, H⟩ := bs H
  have r1 := c32_R e1
  refine j_iinc (k0 := 1) (lv' := [(0, vr x0), (1, vi (x1 + 1))]) (pc' := 119) dX10_findLowest_116 rfl rfl (by decide) [1, 0] rfl ?_
  refine j_goto (tgt := 13) dX10_findLowest_119 (by decide) ?_
  exact hk13 x0 (x1 + 1) h r1 H
noncomputable def fX10_findLowest_110 (k13 : Nat → Int → Hp → Option (Hp)) (k25 : Nat → Int → Int → Hp → Option (Hp)) (x0 : Nat) (x1 : Int) (x2 : Int) (h : Hp) : Option (Hp) :=
  (c32 (x2 + 1)).bind fun _ => k25 x0 x1 (x2 + 1) h
theorem tX10_findLowest_110 {L : Nat} {xs : Nat → Int32} {l : Launch} {res : Hp} (k13 : Nat → Int → Hp → Option (Hp)) (k25 : Nat → Int → Int → Hp → Option (Hp)) (hk13 : ∀ (x0 : Nat) (x1 : Int) (h : Hp), R32 x1 → k13 x0 x1 h = some res → J L xs l RX10 cX10_findLowest 4 false 2 (QV res) 0 0 13 [(0, vr x0), (1, vi x1)] [] h) (hk25 : ∀ (x0 : Nat) (x1 : Int) (x2 : Int) (h : Hp), R32 x1 → R32 x2 → k25 x0 x1 x2 h = some res → J L xs l RX10 cX10_findLowest 4 false 2 (QV res) 0 0 25 [(0, vr x0), (1, vi x1), (2, vi x2)] [] h) (x0 : Nat) (x1 : Int) (x2 : Int) (h : Hp) (rx1 : R32 x1) (rx2 : R32 x2) (H : fX10_findLowest_110 k13 k25 x0 x1 x2 h = some res) : J L xs l RX10 cX10_findLowest 4 false 2 (QV res) 0 0 110 [(0, vr x0), (1, vi x1), (2, vi x2)] [] h := by
  unfold fX10_findLowest_110 at H
  obtain ⟨u1, e1, H⟩ := bs H
  have r1 := c32_R e1
  refine j_iinc (k0 := 2) (lv' := [(0, vr x0), (1, vi x1), (2, vi (x2 + 1))]) (pc' := 113) dX10_findLowest_110 rfl rfl (by decide) [1, 2, 0] rfl ?_
  refine j_goto (tgt := 25) dX10_findLowest_113 (by decide) ?_
  exact hk25 x0 x1 (x2 + 1) h rx1 r1 H
noncomputable def fX10_findLowest_25 (k13 : Nat → Int → Hp → Option (Hp)) : Nat → Nat → Int → Int → Hp → Option (Hp)
  | 0, _, _, _, _ => none
  | n + 1, x0, x1, x2, h => (getI h 9 x0 1).bind fun v1 => if v1 ≤ x2 then (fX10_findLowest_116 k13 x0 x1 h) else ((getI h 9 x0 6).bind fun v3 => (fX0_has v3 x1 h).bind fun p4 => if p4.1 = 0 then (fX10_findLowest_116 k13 x0 x1 p4.2) else ((getR p4.2 9 x0 5).bind fun v6 => (ald p4.2 0 v6 ((x1 * 12) + x2)).bind fun v7 => (getI p4.2 9 x0 6).bind fun v8 => (fX0_has v8 x2 p4.2).bind fun p9 => if p9.1 = 0 then (fX10_findLowest_110 k13 (fX10_findLowest_25 k13 n) x0 x1 x2 p9.2) else ((getR p9.2 9 x0 4).bind fun v11 => (getI p9.2 9 x0 0).bind fun v12 => (ald p9.2 0 v11 v12).bind fun v13 => if v13 ≤ v7 then (fX10_findLowest_110 k13 (fX10_findLowest_25 k13 n) x0 x1 x2 p9.2) else ((getR p9.2 9 x0 2).bind fun v15 => (getI p9.2 9 x0 0).bind fun v16 => (ast p9.2 0 v15 v16 x1).bind fun h17 => (getR h17 9 x0 3).bind fun v18 => (getI h17 9 x0 0).bind fun v19 => (ast h17 0 v18 v19 x2).bind fun h20 => (getR h20 9 x0 4).bind fun v21 => (getI h20 9 x0 0).bind fun v22 => (ast h20 0 v21 v22 v7).bind fun h23 => fX10_findLowest_110 k13 (fX10_findLowest_25 k13 n) x0 x1 x2 h23))))
theorem tX10_findLowest_25 {L : Nat} {xs : Nat → Int32} {l : Launch} {res : Hp} (k13 : Nat → Int → Hp → Option (Hp)) (hk13 : ∀ (x0 : Nat) (x1 : Int) (h : Hp), R32 x1 → k13 x0 x1 h = some res → J L xs l RX10 cX10_findLowest 4 false 2 (QV res) 0 0 13 [(0, vr x0), (1, vi x1)] [] h) : ∀ (n : Nat) (x0 : Nat) (x1 : Int) (x2 : Int) (h : Hp), R32 x1 → R32 x2 → fX10_findLowest_25 k13 n x0 x1 x2 h = some res → J L xs l RX10 cX10_findLowest 4 false 2 (QV res) 0 0 25 [(0, vr x0), (1, vi x1), (2, vi x2)] [] h := by
  intro n
  induction n with
  | zero => intro x0 x1 x2 h rx1 rx2 H; cases H
  | succ n ih =>
    intro x0 x1 x2 h rx1 rx2 H
    rw [fX10_findLowest_25] at H
    refine j_iload_n (i := 2) (pc' := 26) dX10_findLowest_25 rfl rfl 2 rfl ?_
    refine j_aload_n (i := 0) (pc' := 27) dX10_findLowest_26 rfl rfl 0 rfl ?_
    obtain ⟨v1, e1, H⟩ := bs H
    refine j_getI (pc' := 30) dX10_findLowest_27 rfl fl_X10_15 e1 (fun r1 => ?_)
    refine j_icmp_ge (tgt := 116) (pc' := 33) dX10_findLowest_30 (by decide) rfl rx2 r1 (fun c2 => ?_) (fun c2 => ?_)
    · rw [if_pos c2] at H
      refine j_sub (lv' := [(0, vr x0), (1, vi x1)]) [0, 1] rfl ?_
      exact tX10_findLowest_116 _ hk13 x0 x1 h rx1 H
    · rw [if_neg c2] at H
      refine j_aload_n (i := 0) (pc' := 34) dX10_findLowest_33 rfl rfl 0 rfl ?_
      obtain ⟨v3, e3, H⟩ := bs H
      refine j_getI (pc' := 37) dX10_findLowest_34 rfl fl_X10_31 e3 (fun r3 => ?_)
      refine j_iload_n (i := 1) (pc' := 38) dX10_findLowest_37 rfl rfl 1 rfl ?_
      obtain ⟨p4, e4, H⟩ := bs H
      refine j_cSb (y := yX0_has) (dY := 1) (vs := [vi v3, vi x1]) (st := []) (pc' := 41) dX10_findLowest_38 rfl ymX0_has ysX0_has ml_X10_56 (by decide) rfl (Nat.le_of_ble_eq_true rfl) (Nat.le_of_ble_eq_true rfl) (tX0_has v3 x1 h r3 rx1 e4) (fun r4 b4 z4 => ?_)
      refine j_if_eq (tgt := 116) (pc' := 44) dX10_findLowest_41 (by decide) rfl r4 (fun c5 => ?_) (fun c5 => ?_)
      · rw [if_pos c5] at H
        refine j_sub (lv' := [(0, vr x0), (1, vi x1)]) [0, 1] rfl ?_
        exact tX10_findLowest_116 _ hk13 x0 x1 p4.2 rx1 H
      · rw [if_neg c5] at H
        refine j_aload_n (i := 0) (pc' := 45) dX10_findLowest_44 rfl rfl 0 rfl ?_
        obtain ⟨v6, e6, H⟩ := bs H
        refine j_getR (pc' := 48) dX10_findLowest_45 rfl fl_X10_28 e6 (fun r6 => ?_)
        refine j_iload_n (i := 1) (pc' := 49) dX10_findLowest_48 rfl rfl 1 rfl ?_
        refine j_bipush (pc' := 51) dX10_findLowest_49 rfl (by decide +kernel) ?_
        refine j_imul (pc' := 52) dX10_findLowest_51 rfl ?_
        refine j_iload_n (i := 2) (pc' := 53) dX10_findLowest_52 rfl rfl 2 rfl ?_
        refine j_iadd (pc' := 54) dX10_findLowest_53 rfl ?_
        obtain ⟨v7, e7, H⟩ := bs H
        refine j_iald (pc' := 55) dX10_findLowest_54 rfl e7 (fun r7 => ?_)
        refine j_istore_n (i := 3) (lv' := [(0, vr x0), (1, vi x1), (2, vi x2), (3, vi v7)]) (pc' := 56) dX10_findLowest_55 rfl rfl (by decide) [1, 2, 3, 0] rfl ?_
        refine j_aload_n (i := 0) (pc' := 57) dX10_findLowest_56 rfl rfl 0 rfl ?_
        obtain ⟨v8, e8, H⟩ := bs H
        refine j_getI (pc' := 60) dX10_findLowest_57 rfl fl_X10_31 e8 (fun r8 => ?_)
        refine j_iload_n (i := 2) (pc' := 61) dX10_findLowest_60 rfl rfl 2 rfl ?_
        obtain ⟨p9, e9, H⟩ := bs H
        refine j_cSb (y := yX0_has) (dY := 1) (vs := [vi v8, vi x2]) (st := []) (pc' := 64) dX10_findLowest_61 rfl ymX0_has ysX0_has ml_X10_56 (by decide) rfl (Nat.le_of_ble_eq_true rfl) (Nat.le_of_ble_eq_true rfl) (tX0_has v8 x2 p4.2 r8 rx2 e9) (fun r9 b9 z9 => ?_)
        refine j_if_eq (tgt := 110) (pc' := 67) dX10_findLowest_64 (by decide) rfl r9 (fun c10 => ?_) (fun c10 => ?_)
        · rw [if_pos c10] at H
          refine j_sub (lv' := [(0, vr x0), (1, vi x1), (2, vi x2)]) [0, 1, 2] rfl ?_
          exact tX10_findLowest_110 _ _ hk13 ih x0 x1 x2 p9.2 rx1 rx2 H
        · rw [if_neg c10] at H
          refine j_iload_n (i := 3) (pc' := 68) dX10_findLowest_67 rfl rfl 3 rfl ?_
          refine j_aload_n (i := 0) (pc' := 69) dX10_findLowest_68 rfl rfl 0 rfl ?_
          obtain ⟨v11, e11, H⟩ := bs H
          refine j_getR (pc' := 72) dX10_findLowest_69 rfl fl_X10_25 e11 (fun r11 => ?_)
          refine j_aload_n (i := 0) (pc' := 73) dX10_findLowest_72 rfl rfl 0 rfl ?_
          obtain ⟨v12, e12, H⟩ := bs H
          refine j_getI (pc' := 76) dX10_findLowest_73 rfl fl_X10_9 e12 (fun r12 => ?_)
          obtain ⟨v13, e13, H⟩ := bs H
          refine j_iald (pc' := 77) dX10_findLowest_76 rfl e13 (fun r13 => ?_)
          refine j_icmp_ge (tgt := 110) (pc' := 80) dX10_findLowest_77 (by decide) rfl r7 r13 (fun c14 => ?_) (fun c14 => ?_)
          · rw [if_pos c14] at H
            refine j_sub (lv' := [(0, vr x0), (1, vi x1), (2, vi x2)]) [0, 1, 2] rfl ?_
            exact tX10_findLowest_110 _ _ hk13 ih x0 x1 x2 p9.2 rx1 rx2 H
          · rw [if_neg c14] at H
            refine j_aload_n (i := 0) (pc' := 81) dX10_findLowest_80 rfl rfl 0 rfl ?_
            obtain ⟨v15, e15, H⟩ := bs H
            refine j_getR (pc' := 84) dX10_findLowest_81 rfl fl_X10_18 e15 (fun r15 => ?_)
            refine j_aload_n (i := 0) (pc' := 85) dX10_findLowest_84 rfl rfl 0 rfl ?_
            obtain ⟨v16, e16, H⟩ := bs H
            refine j_getI (pc' := 88) dX10_findLowest_85 rfl fl_X10_9 e16 (fun r16 => ?_)
            refine j_iload_n (i := 1) (pc' := 89) dX10_findLowest_88 rfl rfl 1 rfl ?_
            obtain ⟨h17, e17, H⟩ := bs H
            refine j_iast (pc' := 90) dX10_findLowest_89 rfl rx1 e17 ?_
            refine j_aload_n (i := 0) (pc' := 91) dX10_findLowest_90 rfl rfl 0 rfl ?_
            obtain ⟨v18, e18, H⟩ := bs H
            refine j_getR (pc' := 94) dX10_findLowest_91 rfl fl_X10_22 e18 (fun r18 => ?_)
            refine j_aload_n (i := 0) (pc' := 95) dX10_findLowest_94 rfl rfl 0 rfl ?_
            obtain ⟨v19, e19, H⟩ := bs H
            refine j_getI (pc' := 98) dX10_findLowest_95 rfl fl_X10_9 e19 (fun r19 => ?_)
            refine j_iload_n (i := 2) (pc' := 99) dX10_findLowest_98 rfl rfl 2 rfl ?_
            obtain ⟨h20, e20, H⟩ := bs H
            refine j_iast (pc' := 100) dX10_findLowest_99 rfl rx2 e20 ?_
            refine j_aload_n (i := 0) (pc' := 101) dX10_findLowest_100 rfl rfl 0 rfl ?_
            obtain ⟨v21, e21, H⟩ := bs H
            refine j_getR (pc' := 104) dX10_findLowest_101 rfl fl_X10_25 e21 (fun r21 => ?_)
            refine j_aload_n (i := 0) (pc' := 105) dX10_findLowest_104 rfl rfl 0 rfl ?_
            obtain ⟨v22, e22, H⟩ := bs H
            refine j_getI (pc' := 108) dX10_findLowest_105 rfl fl_X10_9 e22 (fun r22 => ?_)
            refine j_iload_n (i := 3) (pc' := 109) dX10_findLowest_108 rfl rfl 3 rfl ?_
            obtain ⟨h23, e23, H⟩ := bs H
            refine j_iast (pc' := 110) dX10_findLowest_109 rfl r7 e23 ?_
            refine j_sub (lv' := [(0, vr x0), (1, vi x1), (2, vi x2)]) [0, 1, 2] rfl ?_
            exact tX10_findLowest_110 _ _ hk13 ih x0 x1 x2 h23 rx1 rx2 H
noncomputable def fX10_findLowest_13 : Nat → Nat → Int → Hp → Option (Hp)
  | 0, _, _, _ => none
  | n + 1, x0, x1, h => (getI h 9 x0 1).bind fun v1 => if v1 ≤ x1 then (fX10_findLowest_122 h) else ((c32 (x1 + 1)).bind fun _ => fX10_findLowest_25 (fX10_findLowest_13 n) FU x0 x1 (x1 + 1) h)
theorem tX10_findLowest_13 {L : Nat} {xs : Nat → Int32} {l : Launch} {res : Hp} : ∀ (n : Nat) (x0 : Nat) (x1 : Int) (h : Hp), R32 x1 → fX10_findLowest_13 n x0 x1 h = some res → J L xs l RX10 cX10_findLowest 4 false 2 (QV res) 0 0 13 [(0, vr x0), (1, vi x1)] [] h := by
  intro n
  induction n with
  | zero => intro x0 x1 h rx1 H; cases H
  | succ n ih =>
    intro x0 x1 h rx1 H
    rw [fX10_findLowest_13] at H
    refine j_iload_n (i := 1) (pc' := 14) dX10_findLowest_13 rfl rfl 1 rfl ?_
    refine j_aload_n (i := 0) (pc' := 15) dX10_findLowest_14 rfl rfl 0 rfl ?_
    obtain ⟨v1, e1, H⟩ := bs H
    refine j_getI (pc' := 18) dX10_findLowest_15 rfl fl_X10_15 e1 (fun r1 => ?_)
    refine j_icmp_ge (tgt := 122) (pc' := 21) dX10_findLowest_18 (by decide) rfl rx1 r1 (fun c2 => ?_) (fun c2 => ?_)
    · rw [if_pos c2] at H
      refine j_sub (lv' := []) [] rfl ?_
      exact tX10_findLowest_122   h  H
    · rw [if_neg c2] at H
      refine j_iload_n (i := 1) (pc' := 22) dX10_findLowest_21 rfl rfl 1 rfl ?_
      refine j_iconst (pc' := 23) dX10_findLowest_22 rfl ?_
      refine j_iadd (pc' := 24) dX10_findLowest_23 rfl ?_
      obtain ⟨u3, e3, H⟩ := bs H
      have r3 := c32_R e3
      refine j_istore_n (i := 2) (lv' := [(0, vr x0), (1, vi x1), (2, vi (x1 + 1))]) (pc' := 25) dX10_findLowest_24 rfl rfl (by decide) [1, 2, 0] rfl ?_
      exact tX10_findLowest_25 _ ih FU x0 x1 (x1 + 1) h rx1 r3 H
noncomputable def fX10_findLowest (a0 : Nat) (h : Hp) : Option (Hp) :=
  (getR h 9 a0 4).bind fun v1 => (getI h 9 a0 0).bind fun v2 => (ast h 0 v1 v2 2147483647).bind fun h3 => fX10_findLowest_13 FU a0 0 h3
theorem tX10_findLowest {L : Nat} {xs : Nat → Int32} {l : Launch} {res : Hp} (a0 : Nat) (h : Hp)  (H : fX10_findLowest a0 h = some res) : J L xs l RX10 cX10_findLowest 4 false 2 (QV res) 0 0 0 (alv 0 [vr a0]) [] h := by
  unfold fX10_findLowest at H
  show J L xs l RX10 cX10_findLowest 4 false 2 (QV res) 0 0 0 [(0, vr a0)] [] h
  refine j_aload_n (i := 0) (pc' := 1) dX10_findLowest_0 rfl rfl 0 rfl ?_
  obtain ⟨v1, e1, H⟩ := bs H
  refine j_getR (pc' := 4) dX10_findLowest_1 rfl fl_X10_25 e1 (fun r1 => ?_)
  refine j_aload_n (i := 0) (pc' := 5) dX10_findLowest_4 rfl rfl 0 rfl ?_
  obtain ⟨v2, e2, H⟩ := bs H
  refine j_getI (pc' := 8) dX10_findLowest_5 rfl fl_X10_9 e2 (fun r2 => ?_)
  refine j_ldc (z := 2147483647) (pc' := 10) dX10_findLowest_8 rfl kk_X10_55 (by decide +kernel) ?_
  obtain ⟨h3, e3, H⟩ := bs H
  refine j_iast (pc' := 11) dX10_findLowest_10 rfl ⟨by decide, by decide⟩ e3 ?_
  refine j_iconst (pc' := 12) dX10_findLowest_11 rfl ?_
  refine j_istore_n (i := 1) (lv' := [(0, vr a0), (1, vi 0)]) (pc' := 13) dX10_findLowest_12 rfl rfl (by decide) [1, 0] rfl ?_
  exact tX10_findLowest_13   FU a0 0 h3 ⟨by decide, by decide⟩ H
-- X10_joinLowest
noncomputable def fX10_joinLowest_131  (h : Hp) : Option (Hp) :=
  some h
theorem tX10_joinLowest_131 {L : Nat} {xs : Nat → Int32} {l : Launch} {res : Hp}  (h : Hp)  (H : fX10_joinLowest_131  h = some res) : J L xs l RX10 cX10_joinLowest 8 false 1 (QV res) 0 0 131 [] [] h := by
  unfold fX10_joinLowest_131 at H
  obtain rfl := Option.some.inj H
  exact j_vret dX10_joinLowest_131 ⟨rfl, rfl⟩
noncomputable def fX10_joinLowest_95 (k37 : Nat → Int → Int → Int → Int → Hp → Option (Hp)) (x0 : Nat) (x1 : Int) (x2 : Int) (x3 : Int) (x4 : Int) (s0 : Int) (h : Hp) : Option (Hp) :=
  (getR h 9 x0 5).bind fun v1 => (ast h 0 v1 ((x2 * 12) + x4) s0).bind fun h2 => (getR h2 9 x0 5).bind fun v3 => (ast h2 0 v3 ((x4 * 12) + x2) s0).bind fun h4 => (c32 (x4 + 1)).bind fun _ => k37 x0 x1 x2 x3 (x4 + 1) h4
theorem tX10_joinLowest_95 {L : Nat} {xs : Nat → Int32} {l : Launch} {res : Hp} (k37 : Nat → Int → Int → Int → Int → Hp → Option (Hp)) (hk37 : ∀ (x0 : Nat) (x1 : Int) (x2 : Int) (x3 : Int) (x4 : Int) (h : Hp), R32 x1 → R32 x2 → R32 x3 → R32 x4 → k37 x0 x1 x2 x3 x4 h = some res → J L xs l RX10 cX10_joinLowest 8 false 1 (QV res) 0 0 37 [(0, vr x0), (1, vi x1), (2, vi x2), (3, vi x3), (4, vi x4)] [] h) (x0 : Nat) (x1 : Int) (x2 : Int) (x3 : Int) (x4 : Int) (s0 : Int) (h : Hp) (rx1 : R32 x1) (rx2 : R32 x2) (rx3 : R32 x3) (rx4 : R32 x4) (rs0 : R32 s0) (H : fX10_joinLowest_95 k37 x0 x1 x2 x3 x4 s0 h = some res) : J L xs l RX10 cX10_joinLowest 8 false 1 (QV res) 0 0 95 [(0, vr x0), (1, vi x1), (2, vi x2), (3, vi x3), (4, vi x4)] [vi s0] h := by
  unfold fX10_joinLowest_95 at H
  refine j_istore (lv' := [(0, vr x0), (1, vi x1), (2, vi x2), (3, vi x3), (4, vi x4), (7, vi s0)]) (pc' := 97) dX10_joinLowest_95 rfl (by decide) [1, 2, 3, 4, 5, 0] rfl ?_
  refine j_aload_n (i := 0) (pc' := 98) dX10_joinLowest_97 rfl rfl 0 rfl ?_
  obtain ⟨v1, e1, H⟩ := bs H
  refine j_getR (pc' := 101) dX10_joinLowest_98 rfl fl_X10_28 e1 (fun r1 => ?_)
  refine j_iload_n (i := 2) (pc' := 102) dX10_joinLowest_101 rfl rfl 2 rfl ?_
  refine j_bipush (pc' := 104) dX10_joinLowest_102 rfl (by decide +kernel) ?_
  refine j_imul (pc' := 105) dX10_joinLowest_104 rfl ?_
  refine j_iload (pc' := 107) dX10_joinLowest_105 rfl 4 rfl ?_
  refine j_iadd (pc' := 108) dX10_joinLowest_107 rfl ?_
  refine j_iload (pc' := 110) dX10_joinLowest_108 rfl 5 rfl ?_
  obtain ⟨h2, e2, H⟩ := bs H
  refine j_iast (pc' := 111) dX10_joinLowest_110 rfl rs0 e2 ?_
  refine j_aload_n (i := 0) (pc' := 112) dX10_joinLowest_111 rfl rfl 0 rfl ?_
  obtain ⟨v3, e3, H⟩ := bs H
  refine j_getR (pc' := 115) dX10_joinLowest_112 rfl fl_X10_28 e3 (fun r3 => ?_)
  refine j_iload (pc' := 117) dX10_joinLowest_115 rfl 4 rfl ?_
  refine j_bipush (pc' := 119) dX10_joinLowest_117 rfl (by decide +kernel) ?_
  refine j_imul (pc' := 120) dX10_joinLowest_119 rfl ?_
  refine j_iload_n (i := 2) (pc' := 121) dX10_joinLowest_120 rfl rfl 2 rfl ?_
  refine j_iadd (pc' := 122) dX10_joinLowest_121 rfl ?_
  refine j_iload (pc' := 124) dX10_joinLowest_122 rfl 5 rfl ?_
  obtain ⟨h4, e4, H⟩ := bs H
  refine j_iast (pc' := 125) dX10_joinLowest_124 rfl rs0 e4 ?_
  obtain ⟨u5, e5, H⟩ := bs H
  have r5 := c32_R e5
  refine j_iinc (k0 := 4) (lv' := [(0, vr x0), (1, vi x1), (2, vi x2), (3, vi x3), (4, vi (x4 + 1)), (7, vi s0)]) (pc' := 128) dX10_joinLowest_125 rfl rfl (by decide) [1, 2, 3, 4, 0, 5] rfl ?_
  refine j_goto (tgt := 37) dX10_joinLowest_128 (by decide) ?_
  refine j_sub (lv' := [(0, vr x0), (1, vi x1), (2, vi x2), (3, vi x3), (4, vi (x4 + 1))]) [0, 1, 2, 3, 4] rfl ?_
  exact hk37 x0 x1 x2 x3 (x4 + 1) h4 rx1 rx2 rx3 r5 H
noncomputable def fX10_joinLowest_37 : Nat → Nat → Int → Int → Int → Int → Hp → Option (Hp)
  | 0, _, _, _, _, _, _ => none
  | n + 1, x0, x1, x2, x3, x4, h => (getI h 9 x0 1).bind fun v1 => if v1 ≤ x4 then (fX10_joinLowest_131 h) else ((getR h 9 x0 5).bind fun v3 => (ald h 0 v3 ((x2 * 12) + x4)).bind fun v4 => (getR h 9 x0 5).bind fun v5 => (ald h 0 v5 ((x3 * 12) + x4)).bind fun v6 => if x1 = 0 then (fX10_joinLowest_95 (fX10_joinLowest_37 n) x0 x1 x2 x3 x4 (min v4 v6) h) else (fX10_joinLowest_95 (fX10_joinLowest_37 n) x0 x1 x2 x3 x4 (max v4 v6) h))
theorem tX10_joinLowest_37 {L : Nat} {xs : Nat → Int32} {l : Launch} {res : Hp} : ∀ (n : Nat) (x0 : Nat) (x1 : Int) (x2 : Int) (x3 : Int) (x4 : Int) (h : Hp), R32 x1 → R32 x2 → R32 x3 → R32 x4 → fX10_joinLowest_37 n x0 x1 x2 x3 x4 h = some res → J L xs l RX10 cX10_joinLowest 8 false 1 (QV res) 0 0 37 [(0, vr x0), (1, vi x1), (2, vi x2), (3, vi x3), (4, vi x4)] [] h := by
  intro n
  induction n with
  | zero => intro x0 x1 x2 x3 x4 h rx1 rx2 rx3 rx4 H; cases H
  | succ n ih =>
    intro x0 x1 x2 x3 x4 h rx1 rx2 rx3 rx4 H
    rw [fX10_joinLowest_37] at H
    refine j_iload (pc' := 39) dX10_joinLowest_37 rfl 4 rfl ?_
    refine j_aload_n (i := 0) (pc' := 40) dX10_joinLowest_39 rfl rfl 0 rfl ?_
    obtain ⟨v1, e1, H⟩ := bs H
    refine j_getI (pc' := 43) dX10_joinLowest_40 rfl fl_X10_15 e1 (fun r1 => ?_)
    refine j_icmp_ge (tgt := 131) (pc' := 46) dX10_joinLowest_43 (by decide) rfl rx4 r1 (fun c2 => ?_) (fun c2 => ?_)
    · rw [if_pos c2] at H
      refine j_sub (lv' := []) [] rfl ?_
      exact tX10_joinLowest_131   h  H
    · rw [if_neg c2] at H
      refine j_aload_n (i := 0) (pc' := 47) dX10_joinLowest_46 rfl rfl 0 rfl ?_
      obtain ⟨v3, e3, H⟩ := bs H
      refine j_getR (pc' := 50) dX10_joinLowest_47 rfl fl_X10_28 e3 (fun r3 => ?_)
      refine j_iload_n (i := 2) (pc' := 51) dX10_joinLowest_50 rfl rfl 2 rfl ?_
      refine j_bipush (pc' := 53) dX10_joinLowest_51 rfl (by decide +kernel) ?_
      refine j_imul (pc' := 54) dX10_joinLowest_53 rfl ?_
      refine j_iload (pc' := 56) dX10_joinLowest_54 rfl 4 rfl ?_
      refine j_iadd (pc' := 57) dX10_joinLowest_56 rfl ?_
      obtain ⟨v4, e4, H⟩ := bs H
      refine j_iald (pc' := 58) dX10_joinLowest_57 rfl e4 (fun r4 => ?_)
      refine j_istore (lv' := [(0, vr x0), (1, vi x1), (2, vi x2), (3, vi x3), (4, vi x4), (5, vi v4)]) (pc' := 60) dX10_joinLowest_58 rfl (by decide) [1, 2, 3, 4, 5, 0] rfl ?_
      refine j_aload_n (i := 0) (pc' := 61) dX10_joinLowest_60 rfl rfl 0 rfl ?_
      obtain ⟨v5, e5, H⟩ := bs H
      refine j_getR (pc' := 64) dX10_joinLowest_61 rfl fl_X10_28 e5 (fun r5 => ?_)
      refine j_iload_n (i := 3) (pc' := 65) dX10_joinLowest_64 rfl rfl 3 rfl ?_
      refine j_bipush (pc' := 67) dX10_joinLowest_65 rfl (by decide +kernel) ?_
      refine j_imul (pc' := 68) dX10_joinLowest_67 rfl ?_
      refine j_iload (pc' := 70) dX10_joinLowest_68 rfl 4 rfl ?_
      refine j_iadd (pc' := 71) dX10_joinLowest_70 rfl ?_
      obtain ⟨v6, e6, H⟩ := bs H
      refine j_iald (pc' := 72) dX10_joinLowest_71 rfl e6 (fun r6 => ?_)
      refine j_istore (lv' := [(0, vr x0), (1, vi x1), (2, vi x2), (3, vi x3), (4, vi x4), (5, vi v4), (6, vi v6)]) (pc' := 74) dX10_joinLowest_72 rfl (by decide) [1, 2, 3, 4, 5, 6, 0] rfl ?_
      refine j_iload_n (i := 1) (pc' := 75) dX10_joinLowest_74 rfl rfl 1 rfl ?_
      refine j_if_ne (tgt := 88) (pc' := 78) dX10_joinLowest_75 (by decide) rfl rx1 (fun c7 => ?_) (fun c7 => ?_)
      · rw [if_neg c7] at H
        refine j_iload (pc' := 90) dX10_joinLowest_88 rfl 5 rfl ?_
        refine j_iload (pc' := 92) dX10_joinLowest_90 rfl 6 rfl ?_
        refine j_mmax (pc' := 95) dX10_joinLowest_92 rfl ml_X10_68 (by decide) (Nat.le_of_ble_eq_true rfl) r4 r6 ?_
        refine j_sub (lv' := [(0, vr x0), (1, vi x1), (2, vi x2), (3, vi x3), (4, vi x4)]) [0, 1, 2, 3, 4] rfl ?_
        exact tX10_joinLowest_95 _ ih x0 x1 x2 x3 x4 (max v4 v6) h rx1 rx2 rx3 rx4 (R32_max r4 r6) H
      · rw [if_pos c7] at H
        refine j_iload (pc' := 80) dX10_joinLowest_78 rfl 5 rfl ?_
        refine j_iload (pc' := 82) dX10_joinLowest_80 rfl 6 rfl ?_
        refine j_mmin (pc' := 85) dX10_joinLowest_82 rfl ml_X10_62 (by decide) (Nat.le_of_ble_eq_true rfl) r4 r6 ?_
        refine j_goto (tgt := 95) dX10_joinLowest_85 (by decide) ?_
        refine j_sub (lv' := [(0, vr x0), (1, vi x1), (2, vi x2), (3, vi x3), (4, vi x4)]) [0, 1, 2, 3, 4] rfl ?_
        exact tX10_joinLowest_95 _ ih x0 x1 x2 x3 x4 (min v4 v6) h rx1 rx2 rx3 rx4 (R32_min r4 r6) H
noncomputable def fX10_joinLowest (a0 : Nat) (a1 : Int) (h : Hp) : Option (Hp) :=
  (getR h 9 a0 2).bind fun v1 => (getI h 9 a0 0).bind fun v2 => (ald h 0 v1 v2).bind fun v3 => (getR h 9 a0 3).bind fun v4 => (getI h 9 a0 0).bind fun v5 => (ald h 0 v4 v5).bind fun v6 => (getI h 9 a0 6).bind fun v7 => (putV h 9 a0 6 (vi (bAnd v7 (bXor (bShl 1 v6) (-1))))).bind fun h8 => fX10_joinLowest_37 FU a0 a1 v3 v6 0 h8
theorem tX10_joinLowest {L : Nat} {xs : Nat → Int32} {l : Launch} {res : Hp} (a0 : Nat) (a1 : Int) (h : Hp) (ra1 : R32 a1) (H : fX10_joinLowest a0 a1 h = some res) : J L xs l RX10 cX10_joinLowest 8 false 1 (QV res) 0 0 0 (alv 0 [vr a0, vi a1]) [] h := by
  unfold fX10_joinLowest at H
  show J L xs l RX10 cX10_joinLowest 8 false 1 (QV res) 0 0 0 [(0, vr a0), (1, vi a1)] [] h
  refine j_aload_n (i := 0) (pc' := 1) dX10_joinLowest_0 rfl rfl 0 rfl ?_
  obtain ⟨v1, e1, H⟩ := bs H
  refine j_getR (pc' := 4) dX10_joinLowest_1 rfl fl_X10_18 e1 (fun r1 => ?_)
  refine j_aload_n (i := 0) (pc' := 5) dX10_joinLowest_4 rfl rfl 0 rfl ?_
  obtain ⟨v2, e2, H⟩ := bs H
  refine j_getI (pc' := 8) dX10_joinLowest_5 rfl fl_X10_9 e2 (fun r2 => ?_)
  obtain ⟨v3, e3, H⟩ := bs H
  refine j_iald (pc' := 9) dX10_joinLowest_8 rfl e3 (fun r3 => ?_)
  refine j_istore_n (i := 2) (lv' := [(0, vr a0), (1, vi a1), (2, vi v3)]) (pc' := 10) dX10_joinLowest_9 rfl rfl (by decide) [1, 2, 0] rfl ?_
  refine j_aload_n (i := 0) (pc' := 11) dX10_joinLowest_10 rfl rfl 0 rfl ?_
  obtain ⟨v4, e4, H⟩ := bs H
  refine j_getR (pc' := 14) dX10_joinLowest_11 rfl fl_X10_22 e4 (fun r4 => ?_)
  refine j_aload_n (i := 0) (pc' := 15) dX10_joinLowest_14 rfl rfl 0 rfl ?_
  obtain ⟨v5, e5, H⟩ := bs H
  refine j_getI (pc' := 18) dX10_joinLowest_15 rfl fl_X10_9 e5 (fun r5 => ?_)
  obtain ⟨v6, e6, H⟩ := bs H
  refine j_iald (pc' := 19) dX10_joinLowest_18 rfl e6 (fun r6 => ?_)
  refine j_istore_n (i := 3) (lv' := [(0, vr a0), (1, vi a1), (2, vi v3), (3, vi v6)]) (pc' := 20) dX10_joinLowest_19 rfl rfl (by decide) [1, 2, 3, 0] rfl ?_
  refine j_aload_n (i := 0) (pc' := 21) dX10_joinLowest_20 rfl rfl 0 rfl ?_
  refine j_dup (pc' := 22) dX10_joinLowest_21 rfl rfl ?_
  obtain ⟨v7, e7, H⟩ := bs H
  refine j_getI (pc' := 25) dX10_joinLowest_22 rfl fl_X10_31 e7 (fun r7 => ?_)
  refine j_iconst (pc' := 26) dX10_joinLowest_25 rfl ?_
  refine j_iload_n (i := 3) (pc' := 27) dX10_joinLowest_26 rfl rfl 3 rfl ?_
  refine j_ishl (pc' := 28) dX10_joinLowest_27 rfl ?_
  refine j_iconst (pc' := 29) dX10_joinLowest_28 rfl ?_
  refine j_ixor (pc' := 30) dX10_joinLowest_29 rfl ?_
  refine j_iand (pc' := 31) dX10_joinLowest_30 rfl ?_
  obtain ⟨h8, e8, H⟩ := bs H
  refine j_putV (pc' := 34) dX10_joinLowest_31 rfl fp_X10_31 tI (R32_to _) e8 ?_
  refine j_iconst (pc' := 35) dX10_joinLowest_34 rfl ?_
  refine j_istore (lv' := [(0, vr a0), (1, vi a1), (2, vi v3), (3, vi v6), (4, vi 0)]) (pc' := 37) dX10_joinLowest_35 rfl (by decide) [1, 2, 3, 4, 0] rfl ?_
  exact tX10_joinLowest_37   FU a0 a1 v3 v6 0 h8 ra1 r3 r6 ⟨by decide, by decide⟩ H
-- X10_grow
noncomputable def fX10_grow_78  (h : Hp) : Option (Hp) :=
  some h
theorem tX10_grow_78 {L : Nat} {xs : Nat → Int32} {l : Launch} {res : Hp}  (h : Hp)  (H : fX10_grow_78  h = some res) : J L xs l RX10 cX10_grow 3 false 3 (QV res) 0 0 78 [] [] h := by
  unfold fX10_grow_78 at H
  obtain rfl := Option.some.inj H
  exact j_vret dX10_grow_78 ⟨rfl, rfl⟩
noncomputable def fX10_grow_43 : Nat → Nat → Int → Hp → Option (Hp)
  | 0, _, _, _ => none
  | n + 1, x0, x2, h => (getI h 9 x0 0).bind fun v1 => (getI h 9 x0 1).bind fun v2 => (c32 (v2 - 1)).bind fun _ => if (v2 - 1) ≤ v1 then (fX10_grow_78 h) else ((cob h 9 x0).bind fun _ => (fX10_findLowest x0 h).bind fun h6 => (cob h6 9 x0).bind fun _ => (fX10_joinLowest x0 x2 h6).bind fun h8 => (getI h8 9 x0 0).bind fun v9 => (c32 (v9 + 1)).bind fun _ => (putV h8 9 x0 0 (vi (v9 + 1))).bind fun h11 => fX10_grow_43 n x0 x2 h11)
theorem tX10_grow_43 {L : Nat} {xs : Nat → Int32} {l : Launch} {res : Hp} : ∀ (n : Nat) (x0 : Nat) (x2 : Int) (h : Hp), R32 x2 → fX10_grow_43 n x0 x2 h = some res → J L xs l RX10 cX10_grow 3 false 3 (QV res) 0 0 43 [(0, vr x0), (2, vi x2)] [] h := by
  intro n
  induction n with
  | zero => intro x0 x2 h rx2 H; cases H
  | succ n ih =>
    intro x0 x2 h rx2 H
    rw [fX10_grow_43] at H
    refine j_aload_n (i := 0) (pc' := 44) dX10_grow_43 rfl rfl 0 rfl ?_
    obtain ⟨v1, e1, H⟩ := bs H
    refine j_getI (pc' := 47) dX10_grow_44 rfl fl_X10_9 e1 (fun r1 => ?_)
    refine j_aload_n (i := 0) (pc' := 48) dX10_grow_47 rfl rfl 0 rfl ?_
    obtain ⟨v2, e2, H⟩ := bs H
    refine j_getI (pc' := 51) dX10_grow_48 rfl fl_X10_15 e2 (fun r2 => ?_)
    refine j_iconst (pc' := 52) dX10_grow_51 rfl ?_
    refine j_isub (pc' := 53) dX10_grow_52 rfl ?_
    obtain ⟨u3, e3, H⟩ := bs H
    have r3 := c32_R e3
    refine j_icmp_ge (tgt := 78) (pc' := 56) dX10_grow_53 (by decide) rfl r1 r3 (fun c4 => ?_) (fun c4 => ?_)
    · rw [if_pos c4] at H
      refine j_sub (lv' := []) [] rfl ?_
      exact tX10_grow_78   h  H
    · rw [if_neg c4] at H
      refine j_aload_n (i := 0) (pc' := 57) dX10_grow_56 rfl rfl 0 rfl ?_
      obtain ⟨u5, e5, H⟩ := bs H
      obtain ⟨h6, e6, H⟩ := bs H
      refine j_cVv (y := yX10_findLowest) (dY := 2) (vs := []) (st := []) (q := x0) (pc' := 60) dX10_grow_57 rfl ymX10_findLowest yvX10_findLowest ml_X10_46 (by decide) rfl (Nat.le_of_ble_eq_true rfl) (Nat.le_of_ble_eq_true rfl) e5 (tX10_findLowest x0 h e6) (fun z6 => ?_)
      refine j_aload_n (i := 0) (pc' := 61) dX10_grow_60 rfl rfl 0 rfl ?_
      refine j_iload_n (i := 2) (pc' := 62) dX10_grow_61 rfl rfl 1 rfl ?_
      obtain ⟨u7, e7, H⟩ := bs H
      obtain ⟨h8, e8, H⟩ := bs H
      refine j_cVv (y := yX10_joinLowest) (dY := 1) (vs := [vi x2]) (st := []) (q := x0) (pc' := 65) dX10_grow_62 rfl ymX10_joinLowest yvX10_joinLowest ml_X10_49 (by decide) rfl (Nat.le_of_ble_eq_true rfl) (Nat.le_of_ble_eq_true rfl) e7 (tX10_joinLowest x0 x2 h6 rx2 e8) (fun z8 => ?_)
      refine j_aload_n (i := 0) (pc' := 66) dX10_grow_65 rfl rfl 0 rfl ?_
      refine j_dup (pc' := 67) dX10_grow_66 rfl rfl ?_
      obtain ⟨v9, e9, H⟩ := bs H
      refine j_getI (pc' := 70) dX10_grow_67 rfl fl_X10_9 e9 (fun r9 => ?_)
      refine j_iconst (pc' := 71) dX10_grow_70 rfl ?_
      refine j_iadd (pc' := 72) dX10_grow_71 rfl ?_
      obtain ⟨u10, e10, H⟩ := bs H
      have r10 := c32_R e10
      obtain ⟨h11, e11, H⟩ := bs H
      refine j_putV (pc' := 75) dX10_grow_72 rfl fp_X10_9 tI r10 e11 ?_
      refine j_goto (tgt := 43) dX10_grow_75 (by decide) ?_
      exact ih x0 x2 h11 rx2 H
noncomputable def fX10_grow (a0 : Nat) (a1 : Nat) (a2 : Int) (h : Hp) : Option (Hp) :=
  (getI h 6 a1 0).bind fun v1 => (putV h 9 a0 1 (vi v1)).bind fun h2 => (getR h2 6 a1 2).bind fun v3 => (getR h2 9 a0 5).bind fun v4 => (getR h2 9 a0 5).bind fun v5 => (aln h2 0 v5).bind fun v6 => (cpyI h2 v3 0 v4 0 v6).bind fun h7 => (getI h7 9 a0 1).bind fun v8 => (c32 ((bShl 1 v8) - 1)).bind fun _ => (putV h7 9 a0 6 (vi ((bShl 1 v8) - 1))).bind fun h10 => (putV h10 9 a0 0 (vi 0)).bind fun h11 => fX10_grow_43 FU a0 a2 h11
theorem tX10_grow {L : Nat} {xs : Nat → Int32} {l : Launch} {res : Hp} (a0 : Nat) (a1 : Nat) (a2 : Int) (h : Hp) (ra2 : R32 a2) (H : fX10_grow a0 a1 a2 h = some res) : J L xs l RX10 cX10_grow 3 false 3 (QV res) 0 0 0 (alv 0 [vr a0, vr a1, vi a2]) [] h := by
  unfold fX10_grow at H
  show J L xs l RX10 cX10_grow 3 false 3 (QV res) 0 0 0 [(0, vr a0), (1, vr a1), (2, vi a2)] [] h
  refine j_aload_n (i := 0) (pc' := 1) dX10_grow_0 rfl rfl 0 rfl ?_
  refine j_aload_n (i := 1) (pc' := 2) dX10_grow_1 rfl rfl 1 rfl ?_
  obtain ⟨v1, e1, H⟩ := bs H
  refine j_getI (pc' := 5) dX10_grow_2 rfl fl_X10_34 e1 (fun r1 => ?_)
  obtain ⟨h2, e2, H⟩ := bs H
  refine j_putV (pc' := 8) dX10_grow_5 rfl fp_X10_15 tI r1 e2 ?_
  refine j_aload_n (i := 1) (pc' := 9) dX10_grow_8 rfl rfl 1 rfl ?_
  obtain ⟨v3, e3, H⟩ := bs H
  refine j_getR (pc' := 12) dX10_grow_9 rfl fl_X10_37 e3 (fun r3 => ?_)
  refine j_iconst (pc' := 13) dX10_grow_12 rfl ?_
  refine j_aload_n (i := 0) (pc' := 14) dX10_grow_13 rfl rfl 0 rfl ?_
  obtain ⟨v4, e4, H⟩ := bs H
  refine j_getR (pc' := 17) dX10_grow_14 rfl fl_X10_28 e4 (fun r4 => ?_)
  refine j_iconst (pc' := 18) dX10_grow_17 rfl ?_
  refine j_aload_n (i := 0) (pc' := 19) dX10_grow_18 rfl rfl 0 rfl ?_
  obtain ⟨v5, e5, H⟩ := bs H
  refine j_getR (pc' := 22) dX10_grow_19 rfl fl_X10_28 e5 (fun r5 => ?_)
  obtain ⟨v6, e6, H⟩ := bs H
  refine j_alen (kd := 0) (pc' := 23) dX10_grow_22 rfl e6 (fun r6 => ?_)
  obtain ⟨h7, e7, H⟩ := bs H
  refine j_cpy (pc' := 26) dX10_grow_23 rfl ml_X10_40 sy_1 sy_2 sy_3 (by decide) (Nat.le_of_ble_eq_true rfl) e7 ?_
  refine j_aload_n (i := 0) (pc' := 27) dX10_grow_26 rfl rfl 0 rfl ?_
  refine j_iconst (pc' := 28) dX10_grow_27 rfl ?_
  refine j_aload_n (i := 0) (pc' := 29) dX10_grow_28 rfl rfl 0 rfl ?_
  obtain ⟨v8, e8, H⟩ := bs H
  refine j_getI (pc' := 32) dX10_grow_29 rfl fl_X10_15 e8 (fun r8 => ?_)
  refine j_ishl (pc' := 33) dX10_grow_32 rfl ?_
  refine j_iconst (pc' := 34) dX10_grow_33 rfl ?_
  refine j_isub (pc' := 35) dX10_grow_34 rfl ?_
  obtain ⟨u9, e9, H⟩ := bs H
  have r9 := c32_R e9
  obtain ⟨h10, e10, H⟩ := bs H
  refine j_putV (pc' := 38) dX10_grow_35 rfl fp_X10_31 tI r9 e10 ?_
  refine j_aload_n (i := 0) (pc' := 39) dX10_grow_38 rfl rfl 0 rfl ?_
  refine j_iconst (pc' := 40) dX10_grow_39 rfl ?_
  obtain ⟨h11, e11, H⟩ := bs H
  refine j_putV (pc' := 43) dX10_grow_40 rfl fp_X10_9 tI ⟨by decide, by decide⟩ e11 ?_
  refine j_sub (lv' := [(0, vr a0), (2, vi a2)]) [0, 2] rfl ?_
  exact tX10_grow_43   FU a0 a2 h11 ra2 H
-- X10_heightOf
noncomputable def fX10_heightOf_91  (h : Hp) : Option (Int × Hp) :=
  some (0, h)
theorem tX10_heightOf_91 {L : Nat} {xs : Nat → Int32} {l : Launch} {res : Int × Hp}  (h : Hp)  (H : fX10_heightOf_91  h = some res) : J L xs l RX10 cX10_heightOf 6 false 1 (QI res) 0 0 91 [] [] h := by
  unfold fX10_heightOf_91 at H
  refine j_iconst (pc' := 92) dX10_heightOf_91 rfl ?_
  obtain rfl := Option.some.inj H
  exact j_iret dX10_heightOf_92 ⟨by decide, by decide⟩ ⟨rfl, rfl⟩
noncomputable def fX10_heightOf_77 (x0 : Nat) (x5 : Int) (h : Hp) : Option (Int × Hp) :=
  (getR h 9 x0 4).bind fun v1 => (ald h 0 v1 x5).bind fun v2 => some (v2, h)
theorem tX10_heightOf_77 {L : Nat} {xs : Nat → Int32} {l : Launch} {res : Int × Hp} (x0 : Nat) (x5 : Int) (h : Hp) (rx5 : R32 x5) (H : fX10_heightOf_77 x0 x5 h = some res) : J L xs l RX10 cX10_heightOf 6 false 1 (QI res) 0 0 77 [(0, vr x0), (5, vi x5)] [] h := by
  unfold fX10_heightOf_77 at H
  refine j_aload_n (i := 0) (pc' := 78) dX10_heightOf_77 rfl rfl 0 rfl ?_
  obtain ⟨v1, e1, H⟩ := bs H
  refine j_getR (pc' := 81) dX10_heightOf_78 rfl fl_X10_25 e1 (fun r1 => ?_)
  refine j_iload (pc' := 83) dX10_heightOf_81 rfl 1 rfl ?_
  obtain ⟨v2, e2, H⟩ := bs H
  refine j_iald (pc' := 84) dX10_heightOf_83 rfl e2 (fun r2 => ?_)
  obtain rfl := Option.some.inj H
  exact j_iret dX10_heightOf_84 r2 ⟨rfl, rfl⟩
noncomputable def fX10_heightOf_69 (k8 : Nat → Int → Int → Int → Int → Int → Hp → Option (Int × Hp)) (x0 : Nat) (x1 : Int) (x2 : Int) (x3 : Int) (x5 : Int) (s0 : Int) (h : Hp) : Option (Int × Hp) :=
  if x3 = s0 then (fX10_heightOf_77 x0 x5 h) else ((c32 (x5 + 1)).bind fun _ => k8 x0 x1 x2 x3 s0 (x5 + 1) h)
theorem tX10_heightOf_69 {L : Nat} {xs : Nat → Int32} {l : Launch} {res : Int × Hp} (k8 : Nat → Int → Int → Int → Int → Int → Hp → Option (Int × Hp)) (hk8 : ∀ (x0 : Nat) (x1 : Int) (x2 : Int) (x3 : Int) (x4 : Int) (x5 : Int) (h : Hp), R32 x1 → R32 x2 → R32 x3 → R32 x4 → R32 x5 → k8 x0 x1 x2 x3 x4 x5 h = some res → J L xs l RX10 cX10_heightOf 6 false 1 (QI res) 0 0 8 [(0, vr x0), (1, vi x1), (2, vi x2), (3, vi x3), (4, vi x4), (5, vi x5)] [] h) (x0 : Nat) (x1 : Int) (x2 : Int) (x3 : Int) (x5 : Int) (s0 : Int) (h : Hp) (rx1 : R32 x1) (rx2 : R32 x2) (rx3 : R32 x3) (rx5 : R32 x5) (rs0 : R32 s0) (H : fX10_heightOf_69 k8 x0 x1 x2 x3 x5 s0 h = some res) : J L xs l RX10 cX10_heightOf 6 false 1 (QI res) 0 0 69 [(0, vr x0), (1, vi x1), (2, vi x2), (3, vi x3), (5, vi x5)] [vi s0] h := by
  unfold fX10_heightOf_69 at H
  refine j_istore (lv' := [(0, vr x0), (1, vi x1), (2, vi x2), (3, vi x3), (4, vi s0), (5, vi x5)]) (pc' := 71) dX10_heightOf_69 rfl (by decide) [1, 2, 3, 4, 0, 5] rfl ?_
  refine j_iload_n (i := 3) (pc' := 72) dX10_heightOf_71 rfl rfl 3 rfl ?_
  refine j_iload (pc' := 74) dX10_heightOf_72 rfl 4 rfl ?_
  refine j_icmp_ne (tgt := 85) (pc' := 77) dX10_heightOf_74 (by decide) rfl rx3 rs0 (fun c1 => ?_) (fun c1 => ?_)
  · rw [if_neg c1] at H
    obtain ⟨u2, e2, H⟩ := bs H
    have r2 := c32_R e2
    refine j_iinc (k0 := 5) (lv' := [(0, vr x0), (1, vi x1), (2, vi x2), (3, vi x3), (4, vi s0), (5, vi (x5 + 1))]) (pc' := 88) dX10_heightOf_85 rfl rfl (by decide) [1, 2, 3, 4, 5, 0] rfl ?_
    refine j_goto (tgt := 8) dX10_heightOf_88 (by decide) ?_
    exact hk8 x0 x1 x2 x3 s0 (x5 + 1) h rx1 rx2 rx3 rs0 r2 H
  · rw [if_pos c1] at H
    refine j_sub (lv' := [(0, vr x0), (5, vi x5)]) [0, 5] rfl ?_
    exact tX10_heightOf_77   x0 x5 h rx5 H
noncomputable def fX10_heightOf_44 (k8 : Nat → Int → Int → Int → Int → Int → Hp → Option (Int × Hp)) (x0 : Nat) (x1 : Int) (x2 : Int) (x4 : Int) (x5 : Int) (s0 : Int) (h : Hp) : Option (Int × Hp) :=
  (getR h 9 x0 3).bind fun v1 => (ald h 0 v1 x5).bind fun v2 => if x4 = v2 then ((getR h 9 x0 2).bind fun v4 => (ald h 0 v4 x5).bind fun v5 => fX10_heightOf_69 k8 x0 x1 x2 s0 x5 v5 h) else (fX10_heightOf_69 k8 x0 x1 x2 s0 x5 x4 h)
theorem tX10_heightOf_44 {L : Nat} {xs : Nat → Int32} {l : Launch} {res : Int × Hp} (k8 : Nat → Int → Int → Int → Int → Int → Hp → Option (Int × Hp)) (hk8 : ∀ (x0 : Nat) (x1 : Int) (x2 : Int) (x3 : Int) (x4 : Int) (x5 : Int) (h : Hp), R32 x1 → R32 x2 → R32 x3 → R32 x4 → R32 x5 → k8 x0 x1 x2 x3 x4 x5 h = some res → J L xs l RX10 cX10_heightOf 6 false 1 (QI res) 0 0 8 [(0, vr x0), (1, vi x1), (2, vi x2), (3, vi x3), (4, vi x4), (5, vi x5)] [] h) (x0 : Nat) (x1 : Int) (x2 : Int) (x4 : Int) (x5 : Int) (s0 : Int) (h : Hp) (rx1 : R32 x1) (rx2 : R32 x2) (rx4 : R32 x4) (rx5 : R32 x5) (rs0 : R32 s0) (H : fX10_heightOf_44 k8 x0 x1 x2 x4 x5 s0 h = some res) : J L xs l RX10 cX10_heightOf 6 false 1 (QI res) 0 0 44 [(0, vr x0), (1, vi x1), (2, vi x2), (4, vi x4), (5, vi x5)] [vi s0] h := by
  unfold fX10_heightOf_44 at H
  refine j_istore_n (i := 3) (lv' := [(0, vr x0), (1, vi x1), (2, vi x2), (3, vi s0), (4, vi x4), (5, vi x5)]) (pc' := 45) dX10_heightOf_44 rfl rfl (by decide) [1, 2, 3, 0, 4, 5] rfl ?_
  refine j_iload (pc' := 47) dX10_heightOf_45 rfl 4 rfl ?_
  refine j_aload_n (i := 0) (pc' := 48) dX10_heightOf_47 rfl rfl 0 rfl ?_
  obtain ⟨v1, e1, H⟩ := bs H
  refine j_getR (pc' := 51) dX10_heightOf_48 rfl fl_X10_22 e1 (fun r1 => ?_)
  refine j_iload (pc' := 53) dX10_heightOf_51 rfl 5 rfl ?_
  obtain ⟨v2, e2, H⟩ := bs H
  refine j_iald (pc' := 54) dX10_heightOf_53 rfl e2 (fun r2 => ?_)
  refine j_icmp_ne (tgt := 67) (pc' := 57) dX10_heightOf_54 (by decide) rfl rx4 r2 (fun c3 => ?_) (fun c3 => ?_)
  · rw [if_neg c3] at H
    refine j_iload (pc' := 69) dX10_heightOf_67 rfl 4 rfl ?_
    refine j_sub (lv' := [(0, vr x0), (1, vi x1), (2, vi x2), (3, vi s0), (5, vi x5)]) [0, 1, 2, 3, 5] rfl ?_
    exact tX10_heightOf_69 _ hk8 x0 x1 x2 s0 x5 x4 h rx1 rx2 rs0 rx5 rx4 H
  · rw [if_pos c3] at H
    refine j_aload_n (i := 0) (pc' := 58) dX10_heightOf_57 rfl rfl 0 rfl ?_
    obtain ⟨v4, e4, H⟩ := bs H
    refine j_getR (pc' := 61) dX10_heightOf_58 rfl fl_X10_18 e4 (fun r4 => ?_)
    refine j_iload (pc' := 63) dX10_heightOf_61 rfl 5 rfl ?_
    obtain ⟨v5, e5, H⟩ := bs H
    refine j_iald (pc' := 64) dX10_heightOf_63 rfl e5 (fun r5 => ?_)
    refine j_goto (tgt := 69) dX10_heightOf_64 (by decide) ?_
    refine j_sub (lv' := [(0, vr x0), (1, vi x1), (2, vi x2), (3, vi s0), (5, vi x5)]) [0, 1, 2, 3, 5] rfl ?_
    exact tX10_heightOf_69 _ hk8 x0 x1 x2 s0 x5 v5 h rx1 rx2 rs0 rx5 r5 H
noncomputable def fX10_heightOf_8 : Nat → Nat → Int → Int → Int → Int → Int → Hp → Option (Int × Hp)
  | 0, _, _, _, _, _, _, _ => none
  | n + 1, x0, x1, x2, x3, x4, x5, h => (getI h 9 x0 0).bind fun v1 => if v1 ≤ x5 then (fX10_heightOf_91 h) else (if x1 = x2 then (fX10_heightOf_91 h) else ((getR h 9 x0 3).bind fun v4 => (ald h 0 v4 x5).bind fun v5 => if x3 = v5 then ((getR h 9 x0 2).bind fun v7 => (ald h 0 v7 x5).bind fun v8 => fX10_heightOf_44 (fX10_heightOf_8 n) x0 x1 x2 x4 x5 v8 h) else (fX10_heightOf_44 (fX10_heightOf_8 n) x0 x1 x2 x4 x5 x3 h)))
theorem tX10_heightOf_8 {L : Nat} {xs : Nat → Int32} {l : Launch} {res : Int × Hp} : ∀ (n : Nat) (x0 : Nat) (x1 : Int) (x2 : Int) (x3 : Int) (x4 : Int) (x5 : Int) (h : Hp), R32 x1 → R32 x2 → R32 x3 → R32 x4 → R32 x5 → fX10_heightOf_8 n x0 x1 x2 x3 x4 x5 h = some res → J L xs l RX10 cX10_heightOf 6 false 1 (QI res) 0 0 8 [(0, vr x0), (1, vi x1), (2, vi x2), (3, vi x3), (4, vi x4), (5, vi x5)] [] h := by
  intro n
  induction n with
  | zero => intro x0 x1 x2 x3 x4 x5 h rx1 rx2 rx3 rx4 rx5 H; cases H
  | succ n ih =>
    intro x0 x1 x2 x3 x4 x5 h rx1 rx2 rx3 rx4 rx5 H
    rw [fX10_heightOf_8] at H
    refine j_iload (pc' := 10) dX10_heightOf_8 rfl 5 rfl ?_
    refine j_aload_n (i := 0) (pc' := 11) dX10_heightOf_10 rfl rfl 0 rfl ?_
    obtain ⟨v1, e1, H⟩ := bs H
    refine j_getI (pc' := 14) dX10_heightOf_11 rfl fl_X10_9 e1 (fun r1 => ?_)
    refine j_icmp_ge (tgt := 91) (pc' := 17) dX10_heightOf_14 (by decide) rfl rx5 r1 (fun c2 => ?_) (fun c2 => ?_)
    · rw [if_pos c2] at H
      refine j_sub (lv' := []) [] rfl ?_
      exact tX10_heightOf_91   h  H
    · rw [if_neg c2] at H
      refine j_iload_n (i := 1) (pc' := 18) dX10_heightOf_17 rfl rfl 1 rfl ?_
      refine j_iload_n (i := 2) (pc' := 19) dX10_heightOf_18 rfl rfl 2 rfl ?_
      refine j_icmp_eq (tgt := 91) (pc' := 22) dX10_heightOf_19 (by decide) rfl rx1 rx2 (fun c3 => ?_) (fun c3 => ?_)
      · rw [if_pos c3] at H
        refine j_sub (lv' := []) [] rfl ?_
        exact tX10_heightOf_91   h  H
      · rw [if_neg c3] at H
        refine j_iload_n (i := 3) (pc' := 23) dX10_heightOf_22 rfl rfl 3 rfl ?_
        refine j_aload_n (i := 0) (pc' := 24) dX10_heightOf_23 rfl rfl 0 rfl ?_
        obtain ⟨v4, e4, H⟩ := bs H
        refine j_getR (pc' := 27) dX10_heightOf_24 rfl fl_X10_22 e4 (fun r4 => ?_)
        refine j_iload (pc' := 29) dX10_heightOf_27 rfl 5 rfl ?_
        obtain ⟨v5, e5, H⟩ := bs H
        refine j_iald (pc' := 30) dX10_heightOf_29 rfl e5 (fun r5 => ?_)
        refine j_icmp_ne (tgt := 43) (pc' := 33) dX10_heightOf_30 (by decide) rfl rx3 r5 (fun c6 => ?_) (fun c6 => ?_)
        · rw [if_neg c6] at H
          refine j_iload_n (i := 3) (pc' := 44) dX10_heightOf_43 rfl rfl 3 rfl ?_
          refine j_sub (lv' := [(0, vr x0), (1, vi x1), (2, vi x2), (4, vi x4), (5, vi x5)]) [0, 1, 2, 4, 5] rfl ?_
          exact tX10_heightOf_44 _ ih x0 x1 x2 x4 x5 x3 h rx1 rx2 rx4 rx5 rx3 H
        · rw [if_pos c6] at H
          refine j_aload_n (i := 0) (pc' := 34) dX10_heightOf_33 rfl rfl 0 rfl ?_
          obtain ⟨v7, e7, H⟩ := bs H
          refine j_getR (pc' := 37) dX10_heightOf_34 rfl fl_X10_18 e7 (fun r7 => ?_)
          refine j_iload (pc' := 39) dX10_heightOf_37 rfl 5 rfl ?_
          obtain ⟨v8, e8, H⟩ := bs H
          refine j_iald (pc' := 40) dX10_heightOf_39 rfl e8 (fun r8 => ?_)
          refine j_goto (tgt := 44) dX10_heightOf_40 (by decide) ?_
          refine j_sub (lv' := [(0, vr x0), (1, vi x1), (2, vi x2), (4, vi x4), (5, vi x5)]) [0, 1, 2, 4, 5] rfl ?_
          exact tX10_heightOf_44 _ ih x0 x1 x2 x4 x5 v8 h rx1 rx2 rx4 rx5 r8 H
noncomputable def fX10_heightOf (a0 : Nat) (a1 : Int) (a2 : Int) (h : Hp) : Option (Int × Hp) :=
  fX10_heightOf_8 FU a0 a1 a2 a1 a2 0 h
theorem tX10_heightOf {L : Nat} {xs : Nat → Int32} {l : Launch} {res : Int × Hp} (a0 : Nat) (a1 : Int) (a2 : Int) (h : Hp) (ra1 : R32 a1) (ra2 : R32 a2) (H : fX10_heightOf a0 a1 a2 h = some res) : J L xs l RX10 cX10_heightOf 6 false 1 (QI res) 0 0 0 (alv 0 [vr a0, vi a1, vi a2]) [] h := by
  unfold fX10_heightOf at H
  show J L xs l RX10 cX10_heightOf 6 false 1 (QI res) 0 0 0 [(0, vr a0), (1, vi a1), (2, vi a2)] [] h
  refine j_iload_n (i := 1) (pc' := 1) dX10_heightOf_0 rfl rfl 1 rfl ?_
  refine j_istore_n (i := 3) (lv' := [(0, vr a0), (1, vi a1), (2, vi a2), (3, vi a1)]) (pc' := 2) dX10_heightOf_1 rfl rfl (by decide) [1, 2, 3, 0] rfl ?_
  refine j_iload_n (i := 2) (pc' := 3) dX10_heightOf_2 rfl rfl 2 rfl ?_
  refine j_istore (lv' := [(0, vr a0), (1, vi a1), (2, vi a2), (3, vi a1), (4, vi a2)]) (pc' := 5) dX10_heightOf_3 rfl (by decide) [1, 2, 3, 4, 0] rfl ?_
  refine j_iconst (pc' := 6) dX10_heightOf_5 rfl ?_
  refine j_istore (lv' := [(0, vr a0), (1, vi a1), (2, vi a2), (3, vi a1), (4, vi a2), (5, vi 0)]) (pc' := 8) dX10_heightOf_6 rfl (by decide) [1, 2, 3, 4, 5, 0] rfl ?_
  exact tX10_heightOf_8   FU a0 a1 a2 a1 a2 0 h ra1 ra2 ra1 ra2 ⟨by decide, by decide⟩ H
-- X10_partBelow
noncomputable def fX10_partBelow_96 (x2 : Nat) (h : Hp) : Option (Hp) :=
  (cob h 5 x2).bind fun _ => (fX6_renumber x2 h).bind fun h2 => some h2
theorem tX10_partBelow_96 {L : Nat} {xs : Nat → Int32} {l : Launch} {res : Hp} (x2 : Nat) (h : Hp)  (H : fX10_partBelow_96 x2 h = some res) : J L xs l RX10 cX10_partBelow 5 false 3 (QV res) 0 0 96 [(2, vr x2)] [] h := by
  unfold fX10_partBelow_96 at H
  refine j_aload_n (i := 2) (pc' := 97) dX10_partBelow_96 rfl rfl 0 rfl ?_
  obtain ⟨u1, e1, H⟩ := bs H
  obtain ⟨h2, e2, H⟩ := bs H
  refine j_cVv (y := yX6_renumber) (dY := 2) (vs := []) (st := []) (q := x2) (pc' := 100) dX10_partBelow_97 rfl ymX6_renumber yvX6_renumber ml_X10_77 (by decide) rfl (Nat.le_of_ble_eq_true rfl) (Nat.le_of_ble_eq_true rfl) e1 (tX6_renumber x2 h e2) (fun z2 => ?_)
  obtain rfl := Option.some.inj H
  exact j_vret dX10_partBelow_100 ⟨rfl, rfl⟩
noncomputable def fX10_partBelow_90 (k25 : Nat → Int → Nat → Int → Hp → Option (Hp)) (x0 : Nat) (x1 : Int) (x2 : Nat) (x3 : Int) (h : Hp) : Option (Hp) :=
  (c32 (x3 + 1)).bind fun _ => k25 x0 x1 x2 (x3 + 1) h
theorem tX10_partBelow_90 {L : Nat} {xs : Nat → Int32} {l : Launch} {res : Hp} (k25 : Nat → Int → Nat → Int → Hp → Option (Hp)) (hk25 : ∀ (x0 : Nat) (x1 : Int) (x2 : Nat) (x3 : Int) (h : Hp), R32 x1 → R32 x3 → k25 x0 x1 x2 x3 h = some res → J L xs l RX10 cX10_partBelow 5 false 3 (QV res) 0 0 25 [(0, vr x0), (1, vi x1), (2, vr x2), (3, vi x3)] [] h) (x0 : Nat) (x1 : Int) (x2 : Nat) (x3 : Int) (h : Hp) (rx1 : R32 x1) (rx3 : R32 x3) (H : fX10_partBelow_90 k25 x0 x1 x2 x3 h = some res) : J L xs l RX10 cX10_partBelow 5 false 3 (QV res) 0 0 90 [(0, vr x0), (1, vi x1), (2, vr x2), (3, vi x3)] [] h := by
  unfold fX10_partBelow_90 at H
  obtain ⟨u1, e1, H⟩ := bs H
  have r1 := c32_R e1
  refine j_iinc (k0 := 3) (lv' := [(0, vr x0), (1, vi x1), (2, vr x2), (3, vi (x3 + 1))]) (pc' := 93) dX10_partBelow_90 rfl rfl (by decide) [1, 2, 3, 0] rfl ?_
  refine j_goto (tgt := 25) dX10_partBelow_93 (by decide) ?_
  exact hk25 x0 x1 x2 (x3 + 1) h rx1 r1 H
noncomputable def fX10_partBelow_84 (k25 : Nat → Int → Nat → Int → Hp → Option (Hp)) (k46 : Nat → Int → Nat → Int → Int → Hp → Option (Hp)) (x0 : Nat) (x1 : Int) (x2 : Nat) (x3 : Int) (x4 : Int) (h : Hp) : Option (Hp) :=
  (c32 (x4 + 1)).bind fun _ => k46 x0 x1 x2 x3 (x4 + 1) h
theorem tX10_partBelow_84 {L : Nat} {xs : Nat → Int32} {l : Launch} {res : Hp} (k25 : Nat → Int → Nat → Int → Hp → Option (Hp)) (k46 : Nat → Int → Nat → Int → Int → Hp → Option (Hp)) (hk25 : ∀ (x0 : Nat) (x1 : Int) (x2 : Nat) (x3 : Int) (h : Hp), R32 x1 → R32 x3 → k25 x0 x1 x2 x3 h = some res → J L xs l RX10 cX10_partBelow 5 false 3 (QV res) 0 0 25 [(0, vr x0), (1, vi x1), (2, vr x2), (3, vi x3)] [] h) (hk46 : ∀ (x0 : Nat) (x1 : Int) (x2 : Nat) (x3 : Int) (x4 : Int) (h : Hp), R32 x1 → R32 x3 → R32 x4 → k46 x0 x1 x2 x3 x4 h = some res → J L xs l RX10 cX10_partBelow 5 false 3 (QV res) 0 0 46 [(0, vr x0), (1, vi x1), (2, vr x2), (3, vi x3), (4, vi x4)] [] h) (x0 : Nat) (x1 : Int) (x2 : Nat) (x3 : Int) (x4 : Int) (h : Hp) (rx1 : R32 x1) (rx3 : R32 x3) (rx4 : R32 x4) (H : fX10_partBelow_84 k25 k46 x0 x1 x2 x3 x4 h = some res) : J L xs l RX10 cX10_partBelow 5 false 3 (QV res) 0 0 84 [(0, vr x0), (1, vi x1), (2, vr x2), (3, vi x3), (4, vi x4)] [] h := by
  unfold fX10_partBelow_84 at H
  obtain ⟨u1, e1, H⟩ := bs H
  have r1 := c32_R e1
  refine j_iinc (k0 := 4) (lv' := [(0, vr x0), (1, vi x1), (2, vr x2), (3, vi x3), (4, vi (x4 + 1))]) (pc' := 87) dX10_partBelow_84 rfl rfl (by decide) [1, 2, 3, 4, 0] rfl ?_
  refine j_goto (tgt := 46) dX10_partBelow_87 (by decide) ?_
  exact hk46 x0 x1 x2 x3 (x4 + 1) h rx1 rx3 r1 H
noncomputable def fX10_partBelow_46 (k25 : Nat → Int → Nat → Int → Hp → Option (Hp)) : Nat → Nat → Int → Nat → Int → Int → Hp → Option (Hp)
  | 0, _, _, _, _, _, _ => none
  | n + 1, x0, x1, x2, x3, x4, h => (getI h 5 x2 0).bind fun v1 => if v1 ≤ x4 then (fX10_partBelow_90 k25 x0 x1 x2 x3 h) else ((getR h 5 x2 2).bind fun v3 => (ald h 0 v3 x4).bind fun v4 => (getR h 9 x0 3).bind fun v5 => (ald h 0 v5 x3).bind fun v6 => if v4 = v6 then ((getR h 5 x2 2).bind fun v8 => (getR h 9 x0 2).bind fun v9 => (ald h 0 v9 x3).bind fun v10 => (ast h 0 v8 x4 v10).bind fun h11 => fX10_partBelow_84 k25 (fX10_partBelow_46 k25 n) x0 x1 x2 x3 x4 h11) else (fX10_partBelow_84 k25 (fX10_partBelow_46 k25 n) x0 x1 x2 x3 x4 h))
theorem tX10_partBelow_46 {L : Nat} {xs : Nat → Int32} {l : Launch} {res : Hp} (k25 : Nat → Int → Nat → Int → Hp → Option (Hp)) (hk25 : ∀ (x0 : Nat) (x1 : Int) (x2 : Nat) (x3 : Int) (h : Hp), R32 x1 → R32 x3 → k25 x0 x1 x2 x3 h = some res → J L xs l RX10 cX10_partBelow 5 false 3 (QV res) 0 0 25 [(0, vr x0), (1, vi x1), (2, vr x2), (3, vi x3)] [] h) : ∀ (n : Nat) (x0 : Nat) (x1 : Int) (x2 : Nat) (x3 : Int) (x4 : Int) (h : Hp), R32 x1 → R32 x3 → R32 x4 → fX10_partBelow_46 k25 n x0 x1 x2 x3 x4 h = some res → J L xs l RX10 cX10_partBelow 5 false 3 (QV res) 0 0 46 [(0, vr x0), (1, vi x1), (2, vr x2), (3, vi x3), (4, vi x4)] [] h := by
  intro n
  induction n with
  | zero => intro x0 x1 x2 x3 x4 h rx1 rx3 rx4 H; cases H
  | succ n ih =>
    intro x0 x1 x2 x3 x4 h rx1 rx3 rx4 H
    rw [fX10_partBelow_46] at H
    refine j_iload (pc' := 48) dX10_partBelow_46 rfl 4 rfl ?_
    refine j_aload_n (i := 2) (pc' := 49) dX10_partBelow_48 rfl rfl 2 rfl ?_
    obtain ⟨v1, e1, H⟩ := bs H
    refine j_getI (pc' := 52) dX10_partBelow_49 rfl fl_X10_71 e1 (fun r1 => ?_)
    refine j_icmp_ge (tgt := 90) (pc' := 55) dX10_partBelow_52 (by decide) rfl rx4 r1 (fun c2 => ?_) (fun c2 => ?_)
    · rw [if_pos c2] at H
      refine j_sub (lv' := [(0, vr x0), (1, vi x1), (2, vr x2), (3, vi x3)]) [0, 1, 2, 3] rfl ?_
      exact tX10_partBelow_90 _ hk25 x0 x1 x2 x3 h rx1 rx3 H
    · rw [if_neg c2] at H
      refine j_aload_n (i := 2) (pc' := 56) dX10_partBelow_55 rfl rfl 2 rfl ?_
      obtain ⟨v3, e3, H⟩ := bs H
      refine j_getR (pc' := 59) dX10_partBelow_56 rfl fl_X10_74 e3 (fun r3 => ?_)
      refine j_iload (pc' := 61) dX10_partBelow_59 rfl 4 rfl ?_
      obtain ⟨v4, e4, H⟩ := bs H
      refine j_iald (pc' := 62) dX10_partBelow_61 rfl e4 (fun r4 => ?_)
      refine j_aload_n (i := 0) (pc' := 63) dX10_partBelow_62 rfl rfl 0 rfl ?_
      obtain ⟨v5, e5, H⟩ := bs H
      refine j_getR (pc' := 66) dX10_partBelow_63 rfl fl_X10_22 e5 (fun r5 => ?_)
      refine j_iload_n (i := 3) (pc' := 67) dX10_partBelow_66 rfl rfl 3 rfl ?_
      obtain ⟨v6, e6, H⟩ := bs H
      refine j_iald (pc' := 68) dX10_partBelow_67 rfl e6 (fun r6 => ?_)
      refine j_icmp_ne (tgt := 84) (pc' := 71) dX10_partBelow_68 (by decide) rfl r4 r6 (fun c7 => ?_) (fun c7 => ?_)
      · rw [if_neg c7] at H
        exact tX10_partBelow_84 _ _ hk25 ih x0 x1 x2 x3 x4 h rx1 rx3 rx4 H
      · rw [if_pos c7] at H
        refine j_aload_n (i := 2) (pc' := 72) dX10_partBelow_71 rfl rfl 2 rfl ?_
        obtain ⟨v8, e8, H⟩ := bs H
        refine j_getR (pc' := 75) dX10_partBelow_72 rfl fl_X10_74 e8 (fun r8 => ?_)
        refine j_iload (pc' := 77) dX10_partBelow_75 rfl 4 rfl ?_
        refine j_aload_n (i := 0) (pc' := 78) dX10_partBelow_77 rfl rfl 0 rfl ?_
        obtain ⟨v9, e9, H⟩ := bs H
        refine j_getR (pc' := 81) dX10_partBelow_78 rfl fl_X10_18 e9 (fun r9 => ?_)
        refine j_iload_n (i := 3) (pc' := 82) dX10_partBelow_81 rfl rfl 3 rfl ?_
        obtain ⟨v10, e10, H⟩ := bs H
        refine j_iald (pc' := 83) dX10_partBelow_82 rfl e10 (fun r10 => ?_)
        obtain ⟨h11, e11, H⟩ := bs H
        refine j_iast (pc' := 84) dX10_partBelow_83 rfl r10 e11 ?_
        exact tX10_partBelow_84 _ _ hk25 ih x0 x1 x2 x3 x4 h11 rx1 rx3 rx4 H
noncomputable def fX10_partBelow_25 : Nat → Nat → Int → Nat → Int → Hp → Option (Hp)
  | 0, _, _, _, _, _ => none
  | n + 1, x0, x1, x2, x3, h => (getI h 9 x0 0).bind fun v1 => if v1 ≤ x3 then (fX10_partBelow_96 x2 h) else ((getR h 9 x0 4).bind fun v3 => (ald h 0 v3 x3).bind fun v4 => if x1 < v4 then (fX10_partBelow_96 x2 h) else (fX10_partBelow_46 (fX10_partBelow_25 n) FU x0 x1 x2 x3 0 h))
theorem tX10_partBelow_25 {L : Nat} {xs : Nat → Int32} {l : Launch} {res : Hp} : ∀ (n : Nat) (x0 : Nat) (x1 : Int) (x2 : Nat) (x3 : Int) (h : Hp), R32 x1 → R32 x3 → fX10_partBelow_25 n x0 x1 x2 x3 h = some res → J L xs l RX10 cX10_partBelow 5 false 3 (QV res) 0 0 25 [(0, vr x0), (1, vi x1), (2, vr x2), (3, vi x3)] [] h := by
  intro n
  induction n with
  | zero => intro x0 x1 x2 x3 h rx1 rx3 H; cases H
  | succ n ih =>
    intro x0 x1 x2 x3 h rx1 rx3 H
    rw [fX10_partBelow_25] at H
    refine j_iload_n (i := 3) (pc' := 26) dX10_partBelow_25 rfl rfl 3 rfl ?_
    refine j_aload_n (i := 0) (pc' := 27) dX10_partBelow_26 rfl rfl 0 rfl ?_
    obtain ⟨v1, e1, H⟩ := bs H
    refine j_getI (pc' := 30) dX10_partBelow_27 rfl fl_X10_9 e1 (fun r1 => ?_)
    refine j_icmp_ge (tgt := 96) (pc' := 33) dX10_partBelow_30 (by decide) rfl rx3 r1 (fun c2 => ?_) (fun c2 => ?_)
    · rw [if_pos c2] at H
      refine j_sub (lv' := [(2, vr x2)]) [2] rfl ?_
      exact tX10_partBelow_96   x2 h  H
    · rw [if_neg c2] at H
      refine j_aload_n (i := 0) (pc' := 34) dX10_partBelow_33 rfl rfl 0 rfl ?_
      obtain ⟨v3, e3, H⟩ := bs H
      refine j_getR (pc' := 37) dX10_partBelow_34 rfl fl_X10_25 e3 (fun r3 => ?_)
      refine j_iload_n (i := 3) (pc' := 38) dX10_partBelow_37 rfl rfl 3 rfl ?_
      obtain ⟨v4, e4, H⟩ := bs H
      refine j_iald (pc' := 39) dX10_partBelow_38 rfl e4 (fun r4 => ?_)
      refine j_iload_n (i := 1) (pc' := 40) dX10_partBelow_39 rfl rfl 1 rfl ?_
      refine j_icmp_gt (tgt := 96) (pc' := 43) dX10_partBelow_40 (by decide) rfl r4 rx1 (fun c5 => ?_) (fun c5 => ?_)
      · rw [if_pos c5] at H
        refine j_sub (lv' := [(2, vr x2)]) [2] rfl ?_
        exact tX10_partBelow_96   x2 h  H
      · rw [if_neg c5] at H
        refine j_iconst (pc' := 44) dX10_partBelow_43 rfl ?_
        refine j_istore (lv' := [(0, vr x0), (1, vi x1), (2, vr x2), (3, vi x3), (4, vi 0)]) (pc' := 46) dX10_partBelow_44 rfl (by decide) [1, 2, 3, 4, 0] rfl ?_
        exact tX10_partBelow_46 _ ih FU x0 x1 x2 x3 0 h rx1 rx3 ⟨by decide, by decide⟩ H
noncomputable def fX10_partBelow_23 (x0 : Nat) (x1 : Int) (x2 : Nat) (h : Hp) : Option (Hp) :=
  fX10_partBelow_25 FU x0 x1 x2 0 h
theorem tX10_partBelow_23 {L : Nat} {xs : Nat → Int32} {l : Launch} {res : Hp} (x0 : Nat) (x1 : Int) (x2 : Nat) (h : Hp) (rx1 : R32 x1) (H : fX10_partBelow_23 x0 x1 x2 h = some res) : J L xs l RX10 cX10_partBelow 5 false 3 (QV res) 0 0 23 [(0, vr x0), (1, vi x1), (2, vr x2)] [] h := by
  unfold fX10_partBelow_23 at H
  refine j_iconst (pc' := 24) dX10_partBelow_23 rfl ?_
  refine j_istore_n (i := 3) (lv' := [(0, vr x0), (1, vi x1), (2, vr x2), (3, vi 0)]) (pc' := 25) dX10_partBelow_24 rfl rfl (by decide) [1, 2, 3, 0] rfl ?_
  exact tX10_partBelow_25   FU x0 x1 x2 0 h rx1 ⟨by decide, by decide⟩ H
noncomputable def fX10_partBelow_2 : Nat → Nat → Int → Nat → Int → Hp → Option (Hp)
  | 0, _, _, _, _, _ => none
  | n + 1, x0, x1, x2, x3, h => (getI h 5 x2 0).bind fun v1 => if v1 ≤ x3 then (fX10_partBelow_23 x0 x1 x2 h) else ((getR h 5 x2 2).bind fun v3 => (ast h 0 v3 x3 x3).bind fun h4 => (c32 (x3 + 1)).bind fun _ => fX10_partBelow_2 n x0 x1 x2 (x3 + 1) h4)
theorem tX10_partBelow_2 {L : Nat} {xs : Nat → Int32} {l : Launch} {res : Hp} : ∀ (n : Nat) (x0 : Nat) (x1 : Int) (x2 : Nat) (x3 : Int) (h : Hp), R32 x1 → R32 x3 → fX10_partBelow_2 n x0 x1 x2 x3 h = some res → J L xs l RX10 cX10_partBelow 5 false 3 (QV res) 0 0 2 [(0, vr x0), (1, vi x1), (2, vr x2), (3, vi x3)] [] h := by
  intro n
  induction n with
  | zero => intro x0 x1 x2 x3 h rx1 rx3 H; cases H
  | succ n ih =>
    intro x0 x1 x2 x3 h rx1 rx3 H
    rw [fX10_partBelow_2] at H
    refine j_iload_n (i := 3) (pc' := 3) dX10_partBelow_2 rfl rfl 3 rfl ?_
    refine j_aload_n (i := 2) (pc' := 4) dX10_partBelow_3 rfl rfl 2 rfl ?_
    obtain ⟨v1, e1, H⟩ := bs H
    refine j_getI (pc' := 7) dX10_partBelow_4 rfl fl_X10_71 e1 (fun r1 => ?_)
    refine j_icmp_ge (tgt := 23) (pc' := 10) dX10_partBelow_7 (by decide) rfl rx3 r1 (fun c2 => ?_) (fun c2 => ?_)
    · rw [if_pos c2] at H
      refine j_sub (lv' := [(0, vr x0), (1, vi x1), (2, vr x2)]) [0, 1, 2] rfl ?_
      exact tX10_partBelow_23   x0 x1 x2 h rx1 H
    · rw [if_neg c2] at H
      refine j_aload_n (i := 2) (pc' := 11) dX10_partBelow_10 rfl rfl 2 rfl ?_
      obtain ⟨v3, e3, H⟩ := bs H
      refine j_getR (pc' := 14) dX10_partBelow_11 rfl fl_X10_74 e3 (fun r3 => ?_)
      refine j_iload_n (i := 3) (pc' := 15) dX10_partBelow_14 rfl rfl 3 rfl ?_
      refine j_iload_n (i := 3) (pc' := 16) dX10_partBelow_15 rfl rfl 3 rfl ?_
      obtain ⟨h4, e4, H⟩ := bs H
      refine j_iast (pc' := 17) dX10_partBelow_16 rfl rx3 e4 ?_
      obtain ⟨u5, e5, H⟩ := bs H
      have r5 := c32_R e5
      refine j_iinc (k0 := 3) (lv' := [(0, vr x0), (1, vi x1), (2, vr x2), (3, vi (x3 + 1))]) (pc' := 20) dX10_partBelow_17 rfl rfl (by decide) [1, 2, 3, 0] rfl ?_
      refine j_goto (tgt := 2) dX10_partBelow_20 (by decide) ?_
      exact ih x0 x1 x2 (x3 + 1) h4 rx1 r5 H
noncomputable def fX10_partBelow (a0 : Nat) (a1 : Int) (a2 : Nat) (h : Hp) : Option (Hp) :=
  fX10_partBelow_2 FU a0 a1 a2 0 h
theorem tX10_partBelow {L : Nat} {xs : Nat → Int32} {l : Launch} {res : Hp} (a0 : Nat) (a1 : Int) (a2 : Nat) (h : Hp) (ra1 : R32 a1) (H : fX10_partBelow a0 a1 a2 h = some res) : J L xs l RX10 cX10_partBelow 5 false 3 (QV res) 0 0 0 (alv 0 [vr a0, vi a1, vr a2]) [] h := by
  unfold fX10_partBelow at H
  show J L xs l RX10 cX10_partBelow 5 false 3 (QV res) 0 0 0 [(0, vr a0), (1, vi a1), (2, vr a2)] [] h
  refine j_iconst (pc' := 1) dX10_partBelow_0 rfl ?_
  refine j_istore_n (i := 3) (lv' := [(0, vr a0), (1, vi a1), (2, vr a2), (3, vi 0)]) (pc' := 2) dX10_partBelow_1 rfl rfl (by decide) [1, 2, 3, 0] rfl ?_
  exact tX10_partBelow_2   FU a0 a1 a2 0 h ra1 ⟨by decide, by decide⟩ H
