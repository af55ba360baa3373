-- X8_init
noncomputable def fX8_init (a0 : Nat) (h : Hp) : Option (Hp) :=
  (cob h 7 a0).bind fun _ => (crf h a0).bind fun _ => (newO h (arr 1 512 (fun _ => 0))).bind fun p3 => (crf p3.2 p3.1).bind fun _ => (putV p3.2 7 a0 0 (vr p3.1)).bind fun h5 => (crf h5 a0).bind fun _ => (newO h5 (arr 0 12 (fun _ => 0))).bind fun p7 => (crf p7.2 p7.1).bind fun _ => (putV p7.2 7 a0 1 (vr p7.1)).bind fun h9 => (crf h9 a0).bind fun _ => (newO h9 (arr 0 12 (fun _ => 0))).bind fun p11 => (crf p11.2 p11.1).bind fun _ => (putV p11.2 7 a0 2 (vr p11.1)).bind fun h13 => (putV h13 7 a0 3 (vl 0)).bind fun h14 => (putV h14 7 a0 4 (vi 0)).bind fun h15 => (putV h15 7 a0 5 (vi 0)).bind fun h16 => (putV h16 7 a0 6 (vi 0)).bind fun h17 => some h17
theorem tX8_init {L : Nat} {xs : Nat → Int32} {l : Launch} {res : Hp} (a0 : Nat) (h : Hp)  (H : fX8_init a0 h = some res) : J L xs l RX8 cX8_init 1 true 1 (QV res) 3 536 0 (alv 0 [vr a0]) [] h := by
  unfold fX8_init at H
  show J L xs l RX8 cX8_init 1 true 1 (QV res) 3 536 0 [(0, vr a0)] [] h
  refine j_aload_n (i := 0) (pc' := 1) dX8_init_0 rfl rfl 0 rfl ?_
  obtain ⟨u1, e1, H⟩ := bs H
  refine j_objInit (pc' := 4) dX8_init_1 rfl ml_X8_3 oi_1 oi_2 (by decide) e1 (Nat.le_of_ble_eq_true rfl) ?_
  refine j_aload_n (i := 0) (pc' := 5) dX8_init_4 rfl rfl 0 rfl ?_
  refine j_sipush (pc' := 8) dX8_init_5 rfl (by decide +kernel) ?_
  obtain ⟨u2, e2, H⟩ := bs H
  obtain ⟨p3, e3, H⟩ := bs H
  refine j_newLp (N := 512) (rc := 2) (rs := 24) (pc' := 10) rfl (by decide) dX8_init_8 rfl ak_long ⟨(crf_R e2), trivial⟩ ⟨(crf_R e2), trivial⟩ e3 ?_
  obtain ⟨u4, e4, H⟩ := bs H
  obtain ⟨h5, e5, H⟩ := bs H
  refine j_putF (pc' := 13) dX8_init_10 rfl rfl fp_X8_9 tR (crf_R e4) e5 ?_
  refine j_aload_n (i := 0) (pc' := 14) dX8_init_13 rfl rfl 0 rfl ?_
  refine j_bipush (pc' := 16) dX8_init_14 rfl (by decide +kernel) ?_
  obtain ⟨u6, e6, H⟩ := bs H
  obtain ⟨p7, e7, H⟩ := bs H
  refine j_newIp (N := 12) (rc := 1) (rs := 12) (pc' := 18) rfl (by decide) dX8_init_16 rfl ak_int ⟨(crf_R e6), trivial⟩ ⟨(crf_R e6), trivial⟩ e7 ?_
  obtain ⟨u8, e8, H⟩ := bs H
  obtain ⟨h9, e9, H⟩ := bs H
  refine j_putF (pc' := 21) dX8_init_18 rfl rfl fp_X8_15 tR (crf_R e8) e9 ?_
  refine j_aload_n (i := 0) (pc' := 22) dX8_init_21 rfl rfl 0 rfl ?_
  refine j_bipush (pc' := 24) dX8_init_22 rfl (by decide +kernel) ?_
  obtain ⟨u10, e10, H⟩ := bs H
  obtain ⟨p11, e11, H⟩ := bs H
  refine j_newIp (N := 12) (rc := 0) (rs := 0) (pc' := 26) rfl (by decide) dX8_init_24 rfl ak_int ⟨(crf_R e10), trivial⟩ ⟨(crf_R e10), trivial⟩ e11 ?_
  obtain ⟨u12, e12, H⟩ := bs H
  obtain ⟨h13, e13, H⟩ := bs H
  refine j_putF (pc' := 29) dX8_init_26 rfl rfl fp_X8_19 tR (crf_R e12) e13 ?_
  refine j_aload_n (i := 0) (pc' := 30) dX8_init_29 rfl rfl 0 rfl ?_
  refine j_lconst (z := 0) (pc' := 31) dX8_init_30 rfl rfl ?_
  obtain ⟨h14, e14, H⟩ := bs H
  refine j_putV (pc' := 34) dX8_init_31 rfl fp_X8_22 tL ⟨by decide, by decide⟩ e14 ?_
  refine j_aload_n (i := 0) (pc' := 35) dX8_init_34 rfl rfl 0 rfl ?_
  refine j_iconst (pc' := 36) dX8_init_35 rfl ?_
  obtain ⟨h15, e15, H⟩ := bs H
  refine j_putV (pc' := 39) dX8_init_36 rfl fp_X8_26 tI ⟨by decide, by decide⟩ e15 ?_
  refine j_aload_n (i := 0) (pc' := 40) dX8_init_39 rfl rfl 0 rfl ?_
  refine j_iconst (pc' := 41) dX8_init_40 rfl ?_
  obtain ⟨h16, e16, H⟩ := bs H
  refine j_putV (pc' := 44) dX8_init_41 rfl fp_X8_30 tI ⟨by decide, by decide⟩ e16 ?_
  refine j_aload_n (i := 0) (pc' := 45) dX8_init_44 rfl rfl 0 rfl ?_
  refine j_iconst (pc' := 46) dX8_init_45 rfl ?_
  obtain ⟨h17, e17, H⟩ := bs H
  refine j_putV (pc' := 49) dX8_init_46 rfl fp_X8_33 tI ⟨by decide, by decide⟩ e17 ?_
  obtain rfl := Option.some.inj H
  exact j_vret dX8_init_49 ⟨rfl, rfl⟩
-- X8_costAllHeaps
noncomputable def fX8_costAllHeaps_43  (h : Hp) : Option (Hp) :=
  some h
theorem tX8_costAllHeaps_43 {L : Nat} {xs : Nat → Int32} {l : Launch} {res : Hp}  (h : Hp)  (H : fX8_costAllHeaps_43  h = some res) : J L xs l RX8 cX8_costAllHeaps 4 false 5 (QV res) 0 0 43 [] [] h := by
  unfold fX8_costAllHeaps_43 at H
  obtain rfl := Option.some.inj H
  exact j_vret dX8_costAllHeaps_43 ⟨rfl, rfl⟩
noncomputable def fX8_costAllHeaps_17 : Nat → Nat → Nat → Int → Int → Hp → Option (Hp)
  | 0, _, _, _, _, _ => none
  | n + 1, x0, x1, x2, x3, h => if x2 ≤ x3 then (fX8_costAllHeaps_43 h) else ((getR h 7 x0 0).bind fun v2 => (getI h 7 x0 4).bind fun v3 => (fX0_ofHeap x1 v3 x3 h).bind fun p4 => (ast p4.2 1 v2 x3 p4.1).bind fun h5 => (c32 (x3 + 1)).bind fun _ => fX8_costAllHeaps_17 n x0 x1 x2 (x3 + 1) h5)
theorem tX8_costAllHeaps_17 {L : Nat} {xs : Nat → Int32} {l : Launch} {res : Hp} : ∀ (n : Nat) (x0 : Nat) (x1 : Nat) (x2 : Int) (x3 : Int) (h : Hp), R32 x2 → R32 x3 → fX8_costAllHeaps_17 n x0 x1 x2 x3 h = some res → J L xs l RX8 cX8_costAllHeaps 4 false 5 (QV res) 0 0 17 [(0, vr x0), (1, vr x1), (2, vi x2), (3, vi x3)] [] h := by
  intro n
  induction n with
  | zero => intro x0 x1 x2 x3 h rx2 rx3 H; cases H
  | succ n ih =>
    intro x0 x1 x2 x3 h rx2 rx3 H
    rw [fX8_costAllHeaps_17] at H
    refine j_iload_n (i := 3) (pc' := 18) dX8_costAllHeaps_17 rfl rfl 3 rfl ?_
    refine j_iload_n (i := 2) (pc' := 19) dX8_costAllHeaps_18 rfl rfl 2 rfl ?_
    refine j_icmp_ge (tgt := 43) (pc' := 22) dX8_costAllHeaps_19 (by decide) rfl rx3 rx2 (fun c1 => ?_) (fun c1 => ?_)
    · rw [if_pos c1] at H
      refine j_sub (lv' := []) [] rfl ?_
      exact tX8_costAllHeaps_43   h  H
    · rw [if_neg c1] at H
      refine j_aload_n (i := 0) (pc' := 23) dX8_costAllHeaps_22 rfl rfl 0 rfl ?_
      obtain ⟨v2, e2, H⟩ := bs H
      refine j_getR (pc' := 26) dX8_costAllHeaps_23 rfl fl_X8_9 e2 (fun r2 => ?_)
      refine j_iload_n (i := 3) (pc' := 27) dX8_costAllHeaps_26 rfl rfl 3 rfl ?_
      refine j_aload_n (i := 1) (pc' := 28) dX8_costAllHeaps_27 rfl rfl 1 rfl ?_
      refine j_aload_n (i := 0) (pc' := 29) dX8_costAllHeaps_28 rfl rfl 0 rfl ?_
      obtain ⟨v3, e3, H⟩ := bs H
      refine j_getI (pc' := 32) dX8_costAllHeaps_29 rfl fl_X8_26 e3 (fun r3 => ?_)
      refine j_iload_n (i := 3) (pc' := 33) dX8_costAllHeaps_32 rfl rfl 3 rfl ?_
      obtain ⟨p4, e4, H⟩ := bs H
      refine j_cSl (y := yX0_ofHeap) (dY := 4) (vs := [vr x1, vi v3, vi x3]) (st := [vi x3, vr v2]) (pc' := 36) dX8_costAllHeaps_33 rfl ymX0_ofHeap ysX0_ofHeap ml_X8_71 (by decide) rfl (Nat.le_of_ble_eq_true rfl) (Nat.le_of_ble_eq_true rfl) (tX0_ofHeap x1 v3 x3 h r3 rx3 e4) (fun r4 z4 => ?_)
      obtain ⟨h5, e5, H⟩ := bs H
      refine j_last (pc' := 37) dX8_costAllHeaps_36 rfl r4 e5 ?_
      obtain ⟨u6, e6, H⟩ := bs H
      have r6 := c32_R e6
      refine j_iinc (k0 := 3) (lv' := [(0, vr x0), (1, vr x1), (2, vi x2), (3, vi (x3 + 1))]) (pc' := 40) dX8_costAllHeaps_37 rfl rfl (by decide) [1, 2, 3, 0] rfl ?_
      refine j_goto (tgt := 17) dX8_costAllHeaps_40 (by decide) ?_
      exact ih x0 x1 x2 (x3 + 1) h5 rx2 r6 H
noncomputable def fX8_costAllHeaps (a0 : Nat) (a1 : Nat) (h : Hp) : Option (Hp) :=
  (getI h 6 a1 0).bind fun v1 => (getR h 7 a0 0).bind fun v2 => (aln h 1 v2).bind fun v3 => fX8_costAllHeaps_17 FU a0 a1 (min (bShl 1 v1) v3) 0 h
theorem tX8_costAllHeaps {L : Nat} {xs : Nat → Int32} {l : Launch} {res : Hp} (a0 : Nat) (a1 : Nat) (h : Hp)  (H : fX8_costAllHeaps a0 a1 h = some res) : J L xs l RX8 cX8_costAllHeaps 4 false 5 (QV res) 0 0 0 (alv 0 [vr a0, vr a1]) [] h := by
  unfold fX8_costAllHeaps at H
  show J L xs l RX8 cX8_costAllHeaps 4 false 5 (QV res) 0 0 0 [(0, vr a0), (1, vr a1)] [] h
  refine j_iconst (pc' := 1) dX8_costAllHeaps_0 rfl ?_
  refine j_aload_n (i := 1) (pc' := 2) dX8_costAllHeaps_1 rfl rfl 1 rfl ?_
  obtain ⟨v1, e1, H⟩ := bs H
  refine j_getI (pc' := 5) dX8_costAllHeaps_2 rfl fl_X8_60 e1 (fun r1 => ?_)
  refine j_ishl (pc' := 6) dX8_costAllHeaps_5 rfl ?_
  refine j_aload_n (i := 0) (pc' := 7) dX8_costAllHeaps_6 rfl rfl 0 rfl ?_
  obtain ⟨v2, e2, H⟩ := bs H
  refine j_getR (pc' := 10) dX8_costAllHeaps_7 rfl fl_X8_9 e2 (fun r2 => ?_)
  obtain ⟨v3, e3, H⟩ := bs H
  refine j_alen (kd := 1) (pc' := 11) dX8_costAllHeaps_10 rfl e3 (fun r3 => ?_)
  refine j_mmin (pc' := 14) dX8_costAllHeaps_11 rfl ml_X8_65 (by decide) (Nat.le_of_ble_eq_true rfl) (R32_to _) r3 ?_
  refine j_istore_n (i := 2) (lv' := [(0, vr a0), (1, vr a1), (2, vi (min (bShl 1 v1) v3))]) (pc' := 15) dX8_costAllHeaps_14 rfl rfl (by decide) [1, 2, 0] rfl ?_
  refine j_iconst (pc' := 16) dX8_costAllHeaps_15 rfl ?_
  refine j_istore_n (i := 3) (lv' := [(0, vr a0), (1, vr a1), (2, vi (min (bShl 1 v1) v3)), (3, vi 0)]) (pc' := 17) dX8_costAllHeaps_16 rfl rfl (by decide) [1, 2, 3, 0] rfl ?_
  exact tX8_costAllHeaps_17   FU a0 a1 (min (bShl 1 v1) v3) 0 h (R32_min (R32_to _) r3) ⟨by decide, by decide⟩ H
-- X8_take
noncomputable def fX8_take_17  (h : Hp) : Option (Hp) :=
  some h
theorem tX8_take_17 {L : Nat} {xs : Nat → Int32} {l : Launch} {res : Hp}  (h : Hp)  (H : fX8_take_17  h = some res) : J L xs l RX8 cX8_take 5 false 1 (QV res) 0 0 17 [] [] h := by
  unfold fX8_take_17 at H
  obtain rfl := Option.some.inj H
  exact j_vret dX8_take_17 ⟨rfl, rfl⟩
noncomputable def fX8_take (a0 : Nat) (a1 : Nat) (a2 : Int) (a3 : Int) (h : Hp) : Option (Hp) :=
  (getI h 7 a0 5).bind fun v1 => if a2 < v1 then (fX8_take_17 h) else ((getL h 7 a0 3).bind fun v3 => if (lCmp a3 v3) < 0 then ((putV h 7 a0 3 (vl a3)).bind fun h5 => (getR h5 7 a0 2).bind fun v6 => (getR h5 6 a1 5).bind fun v7 => (getR h5 5 v7 2).bind fun v8 => (getI h5 6 a1 0).bind fun v9 => (cpyI h5 v6 0 v8 0 v9).bind fun h10 => (getR h10 6 a1 5).bind fun v11 => (putV h10 5 v11 1 (vi a2)).bind fun h12 => some h12) else (fX8_take_17 h))
theorem tX8_take {L : Nat} {xs : Nat → Int32} {l : Launch} {res : Hp} (a0 : Nat) (a1 : Nat) (a2 : Int) (a3 : Int) (h : Hp) (ra2 : R32 a2) (ra3 : R64 a3) (H : fX8_take a0 a1 a2 a3 h = some res) : J L xs l RX8 cX8_take 5 false 1 (QV res) 0 0 0 (alv 0 [vr a0, vr a1, vi a2, vl a3]) [] h := by
  unfold fX8_take at H
  show J L xs l RX8 cX8_take 5 false 1 (QV res) 0 0 0 [(0, vr a0), (1, vr a1), (2, vi a2), (3, vl a3)] [] h
  refine j_iload_n (i := 2) (pc' := 1) dX8_take_0 rfl rfl 2 rfl ?_
  refine j_aload_n (i := 0) (pc' := 2) dX8_take_1 rfl rfl 0 rfl ?_
  obtain ⟨v1, e1, H⟩ := bs H
  refine j_getI (pc' := 5) dX8_take_2 rfl fl_X8_30 e1 (fun r1 => ?_)
  refine j_icmp_lt (tgt := 17) (pc' := 8) dX8_take_5 (by decide) rfl ra2 r1 (fun c2 => ?_) (fun c2 => ?_)
  · rw [if_pos c2] at H
    refine j_sub (lv' := []) [] rfl ?_
    exact tX8_take_17   h  H
  · rw [if_neg c2] at H
    refine j_lload_n (i := 3) (pc' := 9) dX8_take_8 rfl rfl 3 rfl ?_
    refine j_aload_n (i := 0) (pc' := 10) dX8_take_9 rfl rfl 0 rfl ?_
    obtain ⟨v3, e3, H⟩ := bs H
    refine j_getL (pc' := 13) dX8_take_10 rfl fl_X8_22 e3 (fun r3 => ?_)
    refine j_lcmp (pc' := 14) dX8_take_13 rfl ra3 r3 ?_
    refine j_if_lt (tgt := 18) (pc' := 17) dX8_take_14 (by decide) rfl (R32_lcmp _ _) (fun c4 => ?_) (fun c4 => ?_)
    · rw [if_pos c4] at H
      refine j_aload_n (i := 0) (pc' := 19) dX8_take_18 rfl rfl 0 rfl ?_
      refine j_lload_n (i := 3) (pc' := 20) dX8_take_19 rfl rfl 3 rfl ?_
      obtain ⟨h5, e5, H⟩ := bs H
      refine j_putV (pc' := 23) dX8_take_20 rfl fp_X8_22 tL ra3 e5 ?_
      refine j_aload_n (i := 0) (pc' := 24) dX8_take_23 rfl rfl 0 rfl ?_
      obtain ⟨v6, e6, H⟩ := bs H
      refine j_getR (pc' := 27) dX8_take_24 rfl fl_X8_19 e6 (fun r6 => ?_)
      refine j_iconst (pc' := 28) dX8_take_27 rfl ?_
      refine j_aload_n (i := 1) (pc' := 29) dX8_take_28 rfl rfl 1 rfl ?_
      obtain ⟨v7, e7, H⟩ := bs H
      refine j_getR (pc' := 32) dX8_take_29 rfl fl_X8_91 e7 (fun r7 => ?_)
      obtain ⟨v8, e8, H⟩ := bs H
      refine j_getR (pc' := 35) dX8_take_32 rfl fl_X8_95 e8 (fun r8 => ?_)
      refine j_iconst (pc' := 36) dX8_take_35 rfl ?_
      refine j_aload_n (i := 1) (pc' := 37) dX8_take_36 rfl rfl 1 rfl ?_
      obtain ⟨v9, e9, H⟩ := bs H
      refine j_getI (pc' := 40) dX8_take_37 rfl fl_X8_60 e9 (fun r9 => ?_)
      obtain ⟨h10, e10, H⟩ := bs H
      refine j_cpy (pc' := 43) dX8_take_40 rfl ml_X8_98 sy_1 sy_2 sy_3 (by decide) (Nat.le_of_ble_eq_true rfl) e10 ?_
      refine j_aload_n (i := 1) (pc' := 44) dX8_take_43 rfl rfl 1 rfl ?_
      obtain ⟨v11, e11, H⟩ := bs H
      refine j_getR (pc' := 47) dX8_take_44 rfl fl_X8_91 e11 (fun r11 => ?_)
      refine j_iload_n (i := 2) (pc' := 48) dX8_take_47 rfl rfl 2 rfl ?_
      obtain ⟨h12, e12, H⟩ := bs H
      refine j_putV (pc' := 51) dX8_take_48 rfl fp_X8_104 tI ra2 e12 ?_
      obtain rfl := Option.some.inj H
      exact j_vret dX8_take_51 ⟨rfl, rfl⟩
    · rw [if_neg c4] at H
      refine j_sub (lv' := []) [] rfl ?_
      exact tX8_take_17   h  H
-- X8_grown
noncomputable def fX8_grown (a0 : Nat) (a1 : Nat) (a2 : Int) (a3 : Int) (a4 : Int) (h : Hp) : Option (Int × Hp) :=
  (getI h 7 a0 4).bind fun v1 => if v1 = 2 then ((fX0_reach a1 a4 a3 a4 h).bind fun p11 => some ((max a2 p11.1), p11.2)) else ((getR h 7 a0 0).bind fun v3 => (aln h 1 v3).bind fun v4 => if (bOr a3 (bShl 1 a4)) < v4 then ((getR h 7 a0 0).bind fun v6 => (ald h 1 v6 a3).bind fun v7 => (getR h 7 a0 0).bind fun v8 => (ald h 1 v8 (bOr a3 (bShl 1 a4))).bind fun v9 => (c64 ((a2 - v7) + v9)).bind fun _ => some (((a2 - v7) + v9), h)) else (some (a2, h)))
theorem tX8_grown {L : Nat} {xs : Nat → Int32} {l : Launch} {res : Int × Hp} (a0 : Nat) (a1 : Nat) (a2 : Int) (a3 : Int) (a4 : Int) (h : Hp) (ra2 : R64 a2) (ra3 : R32 a3) (ra4 : R32 a4) (H : fX8_grown a0 a1 a2 a3 a4 h = some res) : J L xs l RX8 cX8_grown 7 false 3 (QL res) 0 0 0 (alv 0 [vr a0, vr a1, vl a2, vi a3, vi a4]) [] h := by
  unfold fX8_grown at H
  show J L xs l RX8 cX8_grown 7 false 3 (QL res) 0 0 0 [(0, vr a0), (1, vr a1), (2, vl a2), (4, vi a3), (5, vi a4)] [] h
  refine j_aload_n (i := 0) (pc' := 1) dX8_grown_0 rfl rfl 0 rfl ?_
  obtain ⟨v1, e1, H⟩ := bs H
  refine j_getI (pc' := 4) dX8_grown_1 rfl fl_X8_26 e1 (fun r1 => ?_)
  refine j_iconst (pc' := 5) dX8_grown_4 rfl ?_
  refine j_icmp_ne (tgt := 24) (pc' := 8) dX8_grown_5 (by decide) rfl r1 ⟨by decide, by decide⟩ (fun c2 => ?_) (fun c2 => ?_)
  · rw [if_neg c2] at H
    refine j_iload (pc' := 26) dX8_grown_24 rfl 3 rfl ?_
    refine j_iconst (pc' := 27) dX8_grown_26 rfl ?_
    refine j_iload (pc' := 29) dX8_grown_27 rfl 4 rfl ?_
    refine j_ishl (pc' := 30) dX8_grown_29 rfl ?_
    refine j_ior (pc' := 31) dX8_grown_30 rfl ?_
    refine j_istore (lv' := [(0, vr a0), (1, vr a1), (2, vl a2), (4, vi a3), (5, vi a4), (6, vi (bOr a3 (bShl 1 a4)))]) (pc' := 33) dX8_grown_31 rfl (by decide) [1, 2, 3, 4, 5, 0] rfl ?_
    refine j_iload (pc' := 35) dX8_grown_33 rfl 5 rfl ?_
    refine j_aload_n (i := 0) (pc' := 36) dX8_grown_35 rfl rfl 0 rfl ?_
    obtain ⟨v3, e3, H⟩ := bs H
    refine j_getR (pc' := 39) dX8_grown_36 rfl fl_X8_9 e3 (fun r3 => ?_)
    obtain ⟨v4, e4, H⟩ := bs H
    refine j_alen (kd := 1) (pc' := 40) dX8_grown_39 rfl e4 (fun r4 => ?_)
    refine j_icmp_lt (tgt := 45) (pc' := 43) dX8_grown_40 (by decide) rfl (R32_to _) r4 (fun c5 => ?_) (fun c5 => ?_)
    · rw [if_pos c5] at H
      refine j_lload_n (i := 2) (pc' := 46) dX8_grown_45 rfl rfl 2 rfl ?_
      refine j_aload_n (i := 0) (pc' := 47) dX8_grown_46 rfl rfl 0 rfl ?_
      obtain ⟨v6, e6, H⟩ := bs H
      refine j_getR (pc' := 50) dX8_grown_47 rfl fl_X8_9 e6 (fun r6 => ?_)
      refine j_iload (pc' := 52) dX8_grown_50 rfl 3 rfl ?_
      obtain ⟨v7, e7, H⟩ := bs H
      refine j_lald (pc' := 53) dX8_grown_52 rfl e7 (fun r7 => ?_)
      refine j_lsub (pc' := 54) dX8_grown_53 rfl ?_
      refine j_aload_n (i := 0) (pc' := 55) dX8_grown_54 rfl rfl 0 rfl ?_
      obtain ⟨v8, e8, H⟩ := bs H
      refine j_getR (pc' := 58) dX8_grown_55 rfl fl_X8_9 e8 (fun r8 => ?_)
      refine j_iload (pc' := 60) dX8_grown_58 rfl 5 rfl ?_
      obtain ⟨v9, e9, H⟩ := bs H
      refine j_lald (pc' := 61) dX8_grown_60 rfl e9 (fun r9 => ?_)
      refine j_ladd (pc' := 62) dX8_grown_61 rfl ?_
      obtain ⟨u10, e10, H⟩ := bs H
      have r10 := c64_R e10
      obtain rfl := Option.some.inj H
      exact j_lret dX8_grown_62 r10 ⟨rfl, rfl⟩
    · rw [if_neg c5] at H
      refine j_lload_n (i := 2) (pc' := 44) dX8_grown_43 rfl rfl 2 rfl ?_
      obtain rfl := Option.some.inj H
      exact j_lret dX8_grown_44 ra2 ⟨rfl, rfl⟩
  · rw [if_pos c2] at H
    refine j_lload_n (i := 2) (pc' := 9) dX8_grown_8 rfl rfl 2 rfl ?_
    refine j_aload_n (i := 1) (pc' := 10) dX8_grown_9 rfl rfl 1 rfl ?_
    refine j_iload (pc' := 12) dX8_grown_10 rfl 4 rfl ?_
    refine j_iload (pc' := 14) dX8_grown_12 rfl 3 rfl ?_
    refine j_iload (pc' := 16) dX8_grown_14 rfl 4 rfl ?_
    obtain ⟨p11, e11, H⟩ := bs H
    refine j_cSi (y := yX0_reach) (dY := 2) (vs := [vr a1, vi a4, vi a3, vi a4]) (st := [vl a2]) (pc' := 19) dX8_grown_16 rfl ymX0_reach ysX0_reach ml_X8_83 (by decide) rfl (Nat.le_of_ble_eq_true rfl) (Nat.le_of_ble_eq_true rfl) (tX0_reach a1 a4 a3 a4 h ra4 ra3 ra4 e11) (fun r11 z11 => ?_)
    refine j_i2l (pc' := 20) dX8_grown_19 rfl r11 ?_
    refine j_mmaxl (pc' := 23) dX8_grown_20 rfl ml_X8_87 (by decide) (Nat.le_of_ble_eq_true rfl) ra2 (R32_l r11) ?_
    obtain rfl := Option.some.inj H
    exact j_lret dX8_grown_23 (R64_max ra2 (R32_l r11)) ⟨rfl, rfl⟩
-- X8_descend
noncomputable def fX8_descend_14 (self : Nat → Nat → Int → Int → Int → Hp → Option (Hp)) (x0 : Nat) (x1 : Nat) (x3 : Int) (x4 : Int) (h : Hp) : Option (Hp) :=
  (cob h 7 x0).bind fun _ => (fX8_take x0 x1 x3 x4 h).bind fun h2 => some h2
theorem tX8_descend_14 {L : Nat} {xs : Nat → Int32} {l : Launch} {res : Hp} {dS : Nat} (hdS : 3 ≤ dS) (self : Nat → Nat → Int → Int → Int → Hp → Option (Hp)) (hs : ∀ (rr : Hp) (a0 : Nat) (a1 : Nat) (a2 : Int) (a3 : Int) (a4 : Int) (h : Hp), R32 a2 → R32 a3 → R64 a4 → self a0 a1 a2 a3 a4 h = some rr → J L xs l RX8 cX8_descend 11 false dS (QV rr) 0 0 0 (alv 0 [vr a0, vr a1, vi a2, vi a3, vl a4]) [] h) (x0 : Nat) (x1 : Nat) (x3 : Int) (x4 : Int) (h : Hp) (rx3 : R32 x3) (rx4 : R64 x4) (H : fX8_descend_14 self x0 x1 x3 x4 h = some res) : J L xs l RX8 cX8_descend 11 false (dS + 1) (QV res) 0 0 14 [(0, vr x0), (1, vr x1), (3, vi x3), (4, vl x4)] [] h := by
  unfold fX8_descend_14 at H
  refine j_aload_n (i := 0) (pc' := 15) dX8_descend_14 rfl rfl 0 rfl ?_
  refine j_aload_n (i := 1) (pc' := 16) dX8_descend_15 rfl rfl 1 rfl ?_
  refine j_iload_n (i := 3) (pc' := 17) dX8_descend_16 rfl rfl 2 rfl ?_
  refine j_lload (pc' := 19) dX8_descend_17 rfl 3 rfl ?_
  obtain ⟨u1, e1, H⟩ := bs H
  obtain ⟨h2, e2, H⟩ := bs H
  refine j_cVv (y := yX8_take) (dY := 1) (vs := [vr x1, vi x3, vl x4]) (st := []) (q := x0) (pc' := 22) dX8_descend_19 rfl ymX8_take yvX8_take ml_X8_75 (by omega) rfl (Nat.le_of_ble_eq_true rfl) (Nat.le_of_ble_eq_true rfl) e1 (tX8_take x0 x1 x3 x4 h rx3 rx4 e2) (fun z2 => ?_)
  obtain rfl := Option.some.inj H
  exact j_vret dX8_descend_22 ⟨rfl, rfl⟩
noncomputable def fX8_descend_169 (self : Nat → Nat → Int → Int → Int → Hp → Option (Hp))  (h : Hp) : Option (Hp) :=
  some h
theorem tX8_descend_169 {L : Nat} {xs : Nat → Int32} {l : Launch} {res : Hp} {dS : Nat} (hdS : 3 ≤ dS) (self : Nat → Nat → Int → Int → Int → Hp → Option (Hp)) (hs : ∀ (rr : Hp) (a0 : Nat) (a1 : Nat) (a2 : Int) (a3 : Int) (a4 : Int) (h : Hp), R32 a2 → R32 a3 → R64 a4 → self a0 a1 a2 a3 a4 h = some rr → J L xs l RX8 cX8_descend 11 false dS (QV rr) 0 0 0 (alv 0 [vr a0, vr a1, vi a2, vi a3, vl a4]) [] h)  (h : Hp)  (H : fX8_descend_169 self  h = some res) : J L xs l RX8 cX8_descend 11 false (dS + 1) (QV res) 0 0 169 [] [] h := by
  unfold fX8_descend_169 at H
  obtain rfl := Option.some.inj H
  exact j_vret dX8_descend_169 ⟨rfl, rfl⟩
noncomputable def fX8_descend_163 (self : Nat → Nat → Int → Int → Int → Hp → Option (Hp)) (k54 : Nat → Nat → Int → Int → Int → Int → Int → Hp → Option (Hp)) (x0 : Nat) (x1 : Nat) (x2 : Int) (x3 : Int) (x4 : Int) (x6 : Int) (x7 : Int) (h : Hp) : Option (Hp) :=
  (c32 (x7 + 1)).bind fun _ => k54 x0 x1 x2 x3 x4 x6 (x7 + 1) h
theorem tX8_descend_163 {L : Nat} {xs : Nat → Int32} {l : Launch} {res : Hp} {dS : Nat} (hdS : 3 ≤ dS) (self : Nat → Nat → Int → Int → Int → Hp → Option (Hp)) (k54 : Nat → Nat → Int → Int → Int → Int → Int → Hp → Option (Hp)) (hs : ∀ (rr : Hp) (a0 : Nat) (a1 : Nat) (a2 : Int) (a3 : Int) (a4 : Int) (h : Hp), R32 a2 → R32 a3 → R64 a4 → self a0 a1 a2 a3 a4 h = some rr → J L xs l RX8 cX8_descend 11 false dS (QV rr) 0 0 0 (alv 0 [vr a0, vr a1, vi a2, vi a3, vl a4]) [] h) (hk54 : ∀ (x0 : Nat) (x1 : Nat) (x2 : Int) (x3 : Int) (x4 : Int) (x6 : Int) (x7 : Int) (h : Hp), R32 x2 → R32 x3 → R64 x4 → R32 x6 → R32 x7 → k54 x0 x1 x2 x3 x4 x6 x7 h = some res → J L xs l RX8 cX8_descend 11 false (dS + 1) (QV res) 0 0 54 [(0, vr x0), (1, vr x1), (2, vi x2), (3, vi x3), (4, vl x4), (6, vi x6), (7, vi x7)] [] h) (x0 : Nat) (x1 : Nat) (x2 : Int) (x3 : Int) (x4 : Int) (x6 : Int) (x7 : Int) (h : Hp) (rx2 : R32 x2) (rx3 : R32 x3) (rx4 : R64 x4) (rx6 : R32 x6) (rx7 : R32 x7) (H : fX8_descend_163 self k54 x0 x1 x2 x3 x4 x6 x7 h = some res) : J L xs l RX8 cX8_descend 11 false (dS + 1) (QV res) 0 0 163 [(0, vr x0), (1, vr x1), (2, vi x2), (3, vi x3), (4, vl x4), (6, vi x6), (7, vi x7)] [] h := by
  unfold fX8_descend_163 at H
  obtain ⟨u1, e1, H⟩ := bs H
  have r1 := c32_R e1
  refine j_iinc (k0 := 6) (lv' := [(0, vr x0), (1, vr x1), (2, vi x2), (3, vi x3), (4, vl x4), (6, vi x6), (7, vi (x7 + 1))]) (pc' := 166) dX8_descend_163 rfl rfl (by decide) [1, 2, 3, 4, 5, 6, 0] rfl ?_
  refine j_goto (tgt := 54) dX8_descend_166 (by decide) ?_
  exact hk54 x0 x1 x2 x3 x4 x6 (x7 + 1) h rx2 rx3 rx4 rx6 r1 H
noncomputable def fX8_descend_149 (self : Nat → Nat → Int → Int → Int → Hp → Option (Hp)) (k54 : Nat → Nat → Int → Int → Int → Int → Int → Hp → Option (Hp)) (x0 : Nat) (x1 : Nat) (x2 : Int) (x3 : Int) (x4 : Int) (x6 : Int) (x7 : Int) (x8 : Int) (x9 : Int) (s0 : Int) (s1 : Int) (s2 : Nat) (s3 : Nat) (h : Hp) : Option (Hp) :=
  (cob h 7 s3).bind fun _ => (self s3 s2 s1 s0 x9 h).bind fun h2 => (getR h2 7 x0 1).bind fun v3 => (ast h2 0 v3 x7 x8).bind fun h4 => fX8_descend_163 self k54 x0 x1 x2 x3 x4 x6 x7 h4
theorem tX8_descend_149 {L : Nat} {xs : Nat → Int32} {l : Launch} {res : Hp} {dS : Nat} (hdS : 3 ≤ dS) (self : Nat → Nat → Int → Int → Int → Hp → Option (Hp)) (k54 : Nat → Nat → Int → Int → Int → Int → Int → Hp → Option (Hp)) (hs : ∀ (rr : Hp) (a0 : Nat) (a1 : Nat) (a2 : Int) (a3 : Int) (a4 : Int) (h : Hp), R32 a2 → R32 a3 → R64 a4 → self a0 a1 a2 a3 a4 h = some rr → J L xs l RX8 cX8_descend 11 false dS (QV rr) 0 0 0 (alv 0 [vr a0, vr a1, vi a2, vi a3, vl a4]) [] h) (hk54 : ∀ (x0 : Nat) (x1 : Nat) (x2 : Int) (x3 : Int) (x4 : Int) (x6 : Int) (x7 : Int) (h : Hp), R32 x2 → R32 x3 → R64 x4 → R32 x6 → R32 x7 → k54 x0 x1 x2 x3 x4 x6 x7 h = some res → J L xs l RX8 cX8_descend 11 false (dS + 1) (QV res) 0 0 54 [(0, vr x0), (1, vr x1), (2, vi x2), (3, vi x3), (4, vl x4), (6, vi x6), (7, vi x7)] [] h) (x0 : Nat) (x1 : Nat) (x2 : Int) (x3 : Int) (x4 : Int) (x6 : Int) (x7 : Int) (x8 : Int) (x9 : Int) (s0 : Int) (s1 : Int) (s2 : Nat) (s3 : Nat) (h : Hp) (rx2 : R32 x2) (rx3 : R32 x3) (rx4 : R64 x4) (rx6 : R32 x6) (rx7 : R32 x7) (rx8 : R32 x8) (rx9 : R64 x9) (rs0 : R32 s0) (rs1 : R32 s1) (H : fX8_descend_149 self k54 x0 x1 x2 x3 x4 x6 x7 x8 x9 s0 s1 s2 s3 h = some res) : J L xs l RX8 cX8_descend 11 false (dS + 1) (QV res) 0 0 149 [(0, vr x0), (1, vr x1), (2, vi x2), (3, vi x3), (4, vl x4), (6, vi x6), (7, vi x7), (8, vi x8), (9, vl x9)] [vi s0, vi s1, vr s2, vr s3] h := by
  unfold fX8_descend_149 at H
  refine j_lload (pc' := 151) dX8_descend_149 rfl 8 rfl ?_
  obtain ⟨u1, e1, H⟩ := bs H
  obtain ⟨h2, e2, H⟩ := bs H
  refine j_cVv (y := yX8_descend) (dY := dS) (vs := [vr s2, vi s1, vi s0, vl x9]) (st := []) (q := s3) (pc' := 154) dX8_descend_151 rfl ymX8_descend yvX8_descend ml_X8_56 (Nat.le_refl _) rfl (Nat.le_of_ble_eq_true rfl) (Nat.le_of_ble_eq_true rfl) e1 (hs _ s3 s2 s1 s0 x9 h rs1 rs0 rx9 e2) (fun z2 => ?_)
  refine j_aload_n (i := 0) (pc' := 155) dX8_descend_154 rfl rfl 0 rfl ?_
  obtain ⟨v3, e3, H⟩ := bs H
  refine j_getR (pc' := 158) dX8_descend_155 rfl fl_X8_15 e3 (fun r3 => ?_)
  refine j_iload (pc' := 160) dX8_descend_158 rfl 6 rfl ?_
  refine j_iload (pc' := 162) dX8_descend_160 rfl 7 rfl ?_
  obtain ⟨h4, e4, H⟩ := bs H
  refine j_iast (pc' := 163) dX8_descend_162 rfl rx8 e4 ?_
  refine j_sub (lv' := [(0, vr x0), (1, vr x1), (2, vi x2), (3, vi x3), (4, vl x4), (6, vi x6), (7, vi x7)]) [0, 1, 2, 3, 4, 5, 6] rfl ?_
  exact tX8_descend_163 hdS _ _ hs hk54 x0 x1 x2 x3 x4 x6 x7 h4 rx2 rx3 rx4 rx6 rx7 H
noncomputable def fX8_descend_110 (self : Nat → Nat → Int → Int → Int → Hp → Option (Hp)) (k54 : Nat → Nat → Int → Int → Int → Int → Int → Hp → Option (Hp)) (x0 : Nat) (x1 : Nat) (x2 : Int) (x3 : Int) (x4 : Int) (x6 : Int) (x7 : Int) (x8 : Int) (x9 : Int) (h : Hp) : Option (Hp) :=
  (getR h 7 x0 1).bind fun v1 => (ast h 0 v1 x7 (bOr x8 (bShl 1 x2))).bind fun h2 => (getR h2 7 x0 2).bind fun v3 => (ast h2 0 v3 x2 x7).bind fun h4 => if x7 = x3 then ((c32 (x3 + 1)).bind fun _ => (c32 (x2 + 1)).bind fun _ => fX8_descend_149 self k54 x0 x1 x2 x3 x4 x6 x7 x8 x9 (x3 + 1) (x2 + 1) x1 x0 h4) else ((c32 (x2 + 1)).bind fun _ => fX8_descend_149 self k54 x0 x1 x2 x3 x4 x6 x7 x8 x9 x3 (x2 + 1) x1 x0 h4)
theorem tX8_descend_110 {L : Nat} {xs : Nat → Int32} {l : Launch} {res : Hp} {dS : Nat} (hdS : 3 ≤ dS) (self : Nat → Nat → Int → Int → Int → Hp → Option (Hp)) (k54 : Nat → Nat → Int → Int → Int → Int → Int → Hp → Option (Hp)) (hs : ∀ (rr : Hp) (a0 : Nat) (a1 : Nat) (a2 : Int) (a3 : Int) (a4 : Int) (h : Hp), R32 a2 → R32 a3 → R64 a4 → self a0 a1 a2 a3 a4 h = some rr → J L xs l RX8 cX8_descend 11 false dS (QV rr) 0 0 0 (alv 0 [vr a0, vr a1, vi a2, vi a3, vl a4]) [] h) (hk54 : ∀ (x0 : Nat) (x1 : Nat) (x2 : Int) (x3 : Int) (x4 : Int) (x6 : Int) (x7 : Int) (h : Hp), R32 x2 → R32 x3 → R64 x4 → R32 x6 → R32 x7 → k54 x0 x1 x2 x3 x4 x6 x7 h = some res → J L xs l RX8 cX8_descend 11 false (dS + 1) (QV res) 0 0 54 [(0, vr x0), (1, vr x1), (2, vi x2), (3, vi x3), (4, vl x4), (6, vi x6), (7, vi x7)] [] h) (x0 : Nat) (x1 : Nat) (x2 : Int) (x3 : Int) (x4 : Int) (x6 : Int) (x7 : Int) (x8 : Int) (x9 : Int) (h : Hp) (rx2 : R32 x2) (rx3 : R32 x3) (rx4 : R64 x4) (rx6 : R32 x6) (rx7 : R32 x7) (rx8 : R32 x8) (rx9 : R64 x9) (H : fX8_descend_110 self k54 x0 x1 x2 x3 x4 x6 x7 x8 x9 h = some res) : J L xs l RX8 cX8_descend 11 false (dS + 1) (QV res) 0 0 110 [(0, vr x0), (1, vr x1), (2, vi x2), (3, vi x3), (4, vl x4), (6, vi x6), (7, vi x7), (8, vi x8), (9, vl x9)] [] h := by
  unfold fX8_descend_110 at H
  refine j_aload_n (i := 0) (pc' := 111) dX8_descend_110 rfl rfl 0 rfl ?_
  obtain ⟨v1, e1, H⟩ := bs H
  refine j_getR (pc' := 114) dX8_descend_111 rfl fl_X8_15 e1 (fun r1 => ?_)
  refine j_iload (pc' := 116) dX8_descend_114 rfl 6 rfl ?_
  refine j_iload (pc' := 118) dX8_descend_116 rfl 7 rfl ?_
  refine j_iconst (pc' := 119) dX8_descend_118 rfl ?_
  refine j_iload_n (i := 2) (pc' := 120) dX8_descend_119 rfl rfl 2 rfl ?_
  refine j_ishl (pc' := 121) dX8_descend_120 rfl ?_
  refine j_ior (pc' := 122) dX8_descend_121 rfl ?_
  obtain ⟨h2, e2, H⟩ := bs H
  refine j_iast (pc' := 123) dX8_descend_122 rfl (R32_to _) e2 ?_
  refine j_aload_n (i := 0) (pc' := 124) dX8_descend_123 rfl rfl 0 rfl ?_
  obtain ⟨v3, e3, H⟩ := bs H
  refine j_getR (pc' := 127) dX8_descend_124 rfl fl_X8_19 e3 (fun r3 => ?_)
  refine j_iload_n (i := 2) (pc' := 128) dX8_descend_127 rfl rfl 2 rfl ?_
  refine j_iload (pc' := 130) dX8_descend_128 rfl 6 rfl ?_
  obtain ⟨h4, e4, H⟩ := bs H
  refine j_iast (pc' := 131) dX8_descend_130 rfl rx7 e4 ?_
  refine j_aload_n (i := 0) (pc' := 132) dX8_descend_131 rfl rfl 0 rfl ?_
  refine j_aload_n (i := 1) (pc' := 133) dX8_descend_132 rfl rfl 1 rfl ?_
  refine j_iload_n (i := 2) (pc' := 134) dX8_descend_133 rfl rfl 2 rfl ?_
  refine j_iconst (pc' := 135) dX8_descend_134 rfl ?_
  refine j_iadd (pc' := 136) dX8_descend_135 rfl ?_
  refine j_iload (pc' := 138) dX8_descend_136 rfl 6 rfl ?_
  refine j_iload_n (i := 3) (pc' := 139) dX8_descend_138 rfl rfl 3 rfl ?_
  refine j_icmp_ne (tgt := 148) (pc' := 142) dX8_descend_139 (by decide) rfl rx7 rx3 (fun c5 => ?_) (fun c5 => ?_)
  · rw [if_neg c5] at H
    refine j_iload_n (i := 3) (pc' := 149) dX8_descend_148 rfl rfl 3 rfl ?_
    obtain ⟨u6, e6, H⟩ := bs H
    have r6 := c32_R e6
    exact tX8_descend_149 hdS _ _ hs hk54 x0 x1 x2 x3 x4 x6 x7 x8 x9 x3 (x2 + 1) x1 x0 h4 rx2 rx3 rx4 rx6 rx7 rx8 rx9 rx3 r6 H
  · rw [if_pos c5] at H
    refine j_iload_n (i := 3) (pc' := 143) dX8_descend_142 rfl rfl 3 rfl ?_
    refine j_iconst (pc' := 144) dX8_descend_143 rfl ?_
    refine j_iadd (pc' := 145) dX8_descend_144 rfl ?_
    refine j_goto (tgt := 149) dX8_descend_145 (by decide) ?_
    obtain ⟨u7, e7, H⟩ := bs H
    have r7 := c32_R e7
    obtain ⟨u8, e8, H⟩ := bs H
    have r8 := c32_R e8
    exact tX8_descend_149 hdS _ _ hs hk54 x0 x1 x2 x3 x4 x6 x7 x8 x9 (x3 + 1) (x2 + 1) x1 x0 h4 rx2 rx3 rx4 rx6 rx7 rx8 rx9 r7 r8 H
noncomputable def fX8_descend_54 (self : Nat → Nat → Int → Int → Int → Hp → Option (Hp)) : Nat → Nat → Nat → Int → Int → Int → Int → Int → Hp → Option (Hp)
  | 0, _, _, _, _, _, _, _, _ => none
  | n + 1, x0, x1, x2, x3, x4, x6, x7, h => if x6 < x7 then (fX8_descend_169 self h) else (if 12 ≤ x7 then (fX8_descend_169 self h) else ((getR h 7 x0 1).bind fun v3 => (ald h 0 v3 x7).bind fun v4 => (cob h 7 x0).bind fun _ => (fX8_grown x0 x1 x4 v4 x2 h).bind fun p6 => (getI p6.2 7 x0 4).bind fun v7 => if v7 = 2 then ((getL p6.2 7 x0 3).bind fun v9 => if (lCmp p6.1 v9) < 0 then (fX8_descend_110 self (fX8_descend_54 self n) x0 x1 x2 x3 x4 x6 x7 v4 p6.1 p6.2) else (fX8_descend_163 self (fX8_descend_54 self n) x0 x1 x2 x3 x4 x6 x7 p6.2)) else (fX8_descend_110 self (fX8_descend_54 self n) x0 x1 x2 x3 x4 x6 x7 v4 p6.1 p6.2)))
theorem tX8_descend_54 {L : Nat} {xs : Nat → Int32} {l : Launch} {res : Hp} {dS : Nat} (hdS : 3 ≤ dS) (self : Nat → Nat → Int → Int → Int → Hp → Option (Hp)) (hs : ∀ (rr : Hp) (a0 : Nat) (a1 : Nat) (a2 : Int) (a3 : Int) (a4 : Int) (h : Hp), R32 a2 → R32 a3 → R64 a4 → self a0 a1 a2 a3 a4 h = some rr → J L xs l RX8 cX8_descend 11 false dS (QV rr) 0 0 0 (alv 0 [vr a0, vr a1, vi a2, vi a3, vl a4]) [] h) : ∀ (n : Nat) (x0 : Nat) (x1 : Nat) (x2 : Int) (x3 : Int) (x4 : Int) (x6 : Int) (x7 : Int) (h : Hp), R32 x2 → R32 x3 → R64 x4 → R32 x6 → R32 x7 → fX8_descend_54 self n x0 x1 x2 x3 x4 x6 x7 h = some res → J L xs l RX8 cX8_descend 11 false (dS + 1) (QV res) 0 0 54 [(0, vr x0), (1, vr x1), (2, vi x2), (3, vi x3), (4, vl x4), (6, vi x6), (7, vi x7)] [] h := by
  intro n
  induction n with
  | zero => intro x0 x1 x2 x3 x4 x6 x7 h rx2 rx3 rx4 rx6 rx7 H; cases H
  | succ n ih =>
    intro x0 x1 x2 x3 x4 x6 x7 h rx2 rx3 rx4 rx6 rx7 H
    rw [fX8_descend_54] at H
    refine j_iload (pc' := 56) dX8_descend_54 rfl 6 rfl ?_
    refine j_iload (pc' := 58) dX8_descend_56 rfl 5 rfl ?_
    refine j_icmp_gt (tgt := 169) (pc' := 61) dX8_descend_58 (by decide) rfl rx7 rx6 (fun c1 => ?_) (fun c1 => ?_)
    · rw [if_pos c1] at H
      refine j_sub (lv' := []) [] rfl ?_
      exact tX8_descend_169 hdS _ hs h  H
    · rw [if_neg c1] at H
      refine j_iload (pc' := 63) dX8_descend_61 rfl 6 rfl ?_
      refine j_bipush (pc' := 65) dX8_descend_63 rfl (by decide +kernel) ?_
      refine j_icmp_ge (tgt := 169) (pc' := 68) dX8_descend_65 (by decide) rfl rx7 ⟨by decide, by decide⟩ (fun c2 => ?_) (fun c2 => ?_)
      · rw [if_pos c2] at H
        refine j_sub (lv' := []) [] rfl ?_
        exact tX8_descend_169 hdS _ hs h  H
      · rw [if_neg c2] at H
        refine j_aload_n (i := 0) (pc' := 69) dX8_descend_68 rfl rfl 0 rfl ?_
        obtain ⟨v3, e3, H⟩ := bs H
        refine j_getR (pc' := 72) dX8_descend_69 rfl fl_X8_15 e3 (fun r3 => ?_)
        refine j_iload (pc' := 74) dX8_descend_72 rfl 6 rfl ?_
        obtain ⟨v4, e4, H⟩ := bs H
        refine j_iald (pc' := 75) dX8_descend_74 rfl e4 (fun r4 => ?_)
        refine j_istore (lv' := [(0, vr x0), (1, vr x1), (2, vi x2), (3, vi x3), (4, vl x4), (6, vi x6), (7, vi x7), (8, vi v4)]) (pc' := 77) dX8_descend_75 rfl (by decide) [1, 2, 3, 4, 5, 6, 7, 0] rfl ?_
        refine j_aload_n (i := 0) (pc' := 78) dX8_descend_77 rfl rfl 0 rfl ?_
        refine j_aload_n (i := 1) (pc' := 79) dX8_descend_78 rfl rfl 1 rfl ?_
        refine j_lload (pc' := 81) dX8_descend_79 rfl 4 rfl ?_
        refine j_iload (pc' := 83) dX8_descend_81 rfl 7 rfl ?_
        refine j_iload_n (i := 2) (pc' := 84) dX8_descend_83 rfl rfl 2 rfl ?_
        obtain ⟨u5, e5, H⟩ := bs H
        obtain ⟨p6, e6, H⟩ := bs H
        refine j_cVl (y := yX8_grown) (dY := 3) (vs := [vr x1, vl x4, vi v4, vi x2]) (st := []) (q := x0) (pc' := 87) dX8_descend_84 rfl ymX8_grown yvX8_grown ml_X8_79 (by omega) rfl (Nat.le_of_ble_eq_true rfl) (Nat.le_of_ble_eq_true rfl) e5 (tX8_grown x0 x1 x4 v4 x2 h rx4 r4 rx2 e6) (fun r6 z6 => ?_)
        refine j_lstore (lv' := [(0, vr x0), (1, vr x1), (2, vi x2), (3, vi x3), (4, vl x4), (6, vi x6), (7, vi x7), (8, vi v4), (9, vl p6.1)]) (pc' := 89) dX8_descend_87 rfl (by decide) [1, 2, 3, 4, 5, 6, 7, 8, 0] rfl ?_
        refine j_aload_n (i := 0) (pc' := 90) dX8_descend_89 rfl rfl 0 rfl ?_
        obtain ⟨v7, e7, H⟩ := bs H
        refine j_getI (pc' := 93) dX8_descend_90 rfl fl_X8_26 e7 (fun r7 => ?_)
        refine j_iconst (pc' := 94) dX8_descend_93 rfl ?_
        refine j_icmp_ne (tgt := 110) (pc' := 97) dX8_descend_94 (by decide) rfl r7 ⟨by decide, by decide⟩ (fun c8 => ?_) (fun c8 => ?_)
        · rw [if_neg c8] at H
          exact tX8_descend_110 hdS _ _ hs ih x0 x1 x2 x3 x4 x6 x7 v4 p6.1 p6.2 rx2 rx3 rx4 rx6 rx7 r4 r6 H
        · rw [if_pos c8] at H
          refine j_lload (pc' := 99) dX8_descend_97 rfl 8 rfl ?_
          refine j_aload_n (i := 0) (pc' := 100) dX8_descend_99 rfl rfl 0 rfl ?_
          obtain ⟨v9, e9, H⟩ := bs H
          refine j_getL (pc' := 103) dX8_descend_100 rfl fl_X8_22 e9 (fun r9 => ?_)
          refine j_lcmp (pc' := 104) dX8_descend_103 rfl r6 r9 ?_
          refine j_if_lt (tgt := 110) (pc' := 107) dX8_descend_104 (by decide) rfl (R32_lcmp _ _) (fun c10 => ?_) (fun c10 => ?_)
          · rw [if_pos c10] at H
            exact tX8_descend_110 hdS _ _ hs ih x0 x1 x2 x3 x4 x6 x7 v4 p6.1 p6.2 rx2 rx3 rx4 rx6 rx7 r4 r6 H
          · rw [if_neg c10] at H
            refine j_goto (tgt := 163) dX8_descend_107 (by decide) ?_
            refine j_sub (lv' := [(0, vr x0), (1, vr x1), (2, vi x2), (3, vi x3), (4, vl x4), (6, vi x6), (7, vi x7)]) [0, 1, 2, 3, 4, 5, 6] rfl ?_
            exact tX8_descend_163 hdS _ _ hs ih x0 x1 x2 x3 x4 x6 x7 p6.2 rx2 rx3 rx4 rx6 rx7 H
noncomputable def fX8_descend : Nat → Nat → Nat → Int → Int → Int → Hp → Option (Hp)
  | 0, _, _, _, _, _, _ => none
  | n + 1, a0, a1, a2, a3, a4, h => (getI h 6 a1 0).bind fun v1 => if v1 ≤ a2 then (fX8_descend_14 (fX8_descend n) a0 a1 a3 a4 h) else (if a2 < 12 then ((getI h 6 a1 0).bind fun v4 => (getI h 7 a0 5).bind fun v5 => (c32 ((a3 + v4) - a2)).bind fun _ => if v5 ≤ ((a3 + v4) - a2) then ((getI h 7 a0 6).bind fun v8 => (c32 (v8 - 1)).bind fun _ => fX8_descend_54 (fX8_descend n) FU a0 a1 a2 a3 a4 (min a3 (v8 - 1)) 0 h) else (some h)) else (fX8_descend_14 (fX8_descend n) a0 a1 a3 a4 h))
theorem tX8_descend_r {L : Nat} {xs : Nat → Int32} {l : Launch} : ∀ (n : Nat) (res : Hp) (a0 : Nat) (a1 : Nat) (a2 : Int) (a3 : Int) (a4 : Int) (h : Hp), R32 a2 → R32 a3 → R64 a4 → fX8_descend n a0 a1 a2 a3 a4 h = some res → J L xs l RX8 cX8_descend 11 false (3 + n) (QV res) 0 0 0 (alv 0 [vr a0, vr a1, vi a2, vi a3, vl a4]) [] h := by
  intro n
  induction n with
  | zero => intro res a0 a1 a2 a3 a4 h ra2 ra3 ra4 H; cases H
  | succ n ih =>
    intro res a0 a1 a2 a3 a4 h ra2 ra3 ra4 H
    rw [fX8_descend] at H
    have hdS : 3 ≤ 3 + n := Nat.le_add_right _ _
    have hs := ih
    show J L xs l RX8 cX8_descend 11 false (3 + n + 1) (QV res) 0 0 0 [(0, vr a0), (1, vr a1), (2, vi a2), (3, vi a3), (4, vl a4)] [] h
    refine j_iload_n (i := 2) (pc' := 1) dX8_descend_0 rfl rfl 2 rfl ?_
    refine j_aload_n (i := 1) (pc' := 2) dX8_descend_1 rfl rfl 1 rfl ?_
    obtain ⟨v1, e1, H⟩ := bs H
    refine j_getI (pc' := 5) dX8_descend_2 rfl fl_X8_60 e1 (fun r1 => ?_)
    refine j_icmp_ge (tgt := 14) (pc' := 8) dX8_descend_5 (by decide) rfl ra2 r1 (fun c2 => ?_) (fun c2 => ?_)
    · rw [if_pos c2] at H
      refine j_sub (lv' := [(0, vr a0), (1, vr a1), (3, vi a3), (4, vl a4)]) [0, 1, 3, 4] rfl ?_
      exact tX8_descend_14 hdS _ hs a0 a1 a3 a4 h ra3 ra4 H
    · rw [if_neg c2] at H
      refine j_iload_n (i := 2) (pc' := 9) dX8_descend_8 rfl rfl 2 rfl ?_
      refine j_bipush (pc' := 11) dX8_descend_9 rfl (by decide +kernel) ?_
      refine j_icmp_lt (tgt := 23) (pc' := 14) dX8_descend_11 (by decide) rfl ra2 ⟨by decide, by decide⟩ (fun c3 => ?_) (fun c3 => ?_)
      · rw [if_pos c3] at H
        refine j_iload_n (i := 3) (pc' := 24) dX8_descend_23 rfl rfl 3 rfl ?_
        refine j_aload_n (i := 1) (pc' := 25) dX8_descend_24 rfl rfl 1 rfl ?_
        obtain ⟨v4, e4, H⟩ := bs H
        refine j_getI (pc' := 28) dX8_descend_25 rfl fl_X8_60 e4 (fun r4 => ?_)
        refine j_iadd (pc' := 29) dX8_descend_28 rfl ?_
        refine j_iload_n (i := 2) (pc' := 30) dX8_descend_29 rfl rfl 2 rfl ?_
        refine j_isub (pc' := 31) dX8_descend_30 rfl ?_
        refine j_aload_n (i := 0) (pc' := 32) dX8_descend_31 rfl rfl 0 rfl ?_
        obtain ⟨v5, e5, H⟩ := bs H
        refine j_getI (pc' := 35) dX8_descend_32 rfl fl_X8_30 e5 (fun r5 => ?_)
        obtain ⟨u6, e6, H⟩ := bs H
        have r6 := c32_R e6
        refine j_icmp_ge (tgt := 39) (pc' := 38) dX8_descend_35 (by decide) rfl r6 r5 (fun c7 => ?_) (fun c7 => ?_)
        · rw [if_pos c7] at H
          refine j_iload_n (i := 3) (pc' := 40) dX8_descend_39 rfl rfl 3 rfl ?_
          refine j_aload_n (i := 0) (pc' := 41) dX8_descend_40 rfl rfl 0 rfl ?_
          obtain ⟨v8, e8, H⟩ := bs H
          refine j_getI (pc' := 44) dX8_descend_41 rfl fl_X8_33 e8 (fun r8 => ?_)
          refine j_iconst (pc' := 45) dX8_descend_44 rfl ?_
          refine j_isub (pc' := 46) dX8_descend_45 rfl ?_
          obtain ⟨u9, e9, H⟩ := bs H
          have r9 := c32_R e9
          refine j_mmin (pc' := 49) dX8_descend_46 rfl ml_X8_65 (by omega) (Nat.le_of_ble_eq_true rfl) ra3 r9 ?_
          refine j_istore (lv' := [(0, vr a0), (1, vr a1), (2, vi a2), (3, vi a3), (4, vl a4), (6, vi (min a3 (v8 - 1)))]) (pc' := 51) dX8_descend_49 rfl (by decide) [1, 2, 3, 4, 5, 0] rfl ?_
          refine j_iconst (pc' := 52) dX8_descend_51 rfl ?_
          refine j_istore (lv' := [(0, vr a0), (1, vr a1), (2, vi a2), (3, vi a3), (4, vl a4), (6, vi (min a3 (v8 - 1))), (7, vi 0)]) (pc' := 54) dX8_descend_52 rfl (by decide) [1, 2, 3, 4, 5, 6, 0] rfl ?_
          exact tX8_descend_54 hdS _ hs FU a0 a1 a2 a3 a4 (min a3 (v8 - 1)) 0 h ra2 ra3 ra4 (R32_min ra3 r9) ⟨by decide, by decide⟩ H
        · rw [if_neg c7] at H
          obtain rfl := Option.some.inj H
          exact j_vret dX8_descend_38 ⟨rfl, rfl⟩
      · rw [if_neg c3] at H
        refine j_sub (lv' := [(0, vr a0), (1, vr a1), (3, vi a3), (4, vl a4)]) [0, 1, 3, 4] rfl ?_
        exact tX8_descend_14 hdS _ hs a0 a1 a3 a4 h ra3 ra4 H
theorem tX8_descend {L : Nat} {xs : Nat → Int32} {l : Launch} {res : Hp} (a0 : Nat) (a1 : Nat) (a2 : Int) (a3 : Int) (a4 : Int) (h : Hp) (ra2 : R32 a2) (ra3 : R32 a3) (ra4 : R64 a4) (H : fX8_descend 20 a0 a1 a2 a3 a4 h = some res) : J L xs l RX8 cX8_descend 11 false 23 (QV res) 0 0 0 (alv 0 [vr a0, vr a1, vi a2, vi a3, vl a4]) [] h := tX8_descend_r 20 res a0 a1 a2 a3 a4 h ra2 ra3 ra4 H
-- X8_run
noncomputable def fX8_run_36 (x0 : Nat) (x1 : Nat) (h : Hp) : Option (Int × Hp) :=
  (getR h 7 x0 1).bind fun v1 => (fJ7_fill_53178 v1 0 h).bind fun h2 => (getI h2 7 x0 4).bind fun v3 => (fX0_ground x1 v3 h2).bind fun p4 => (cob p4.2 7 x0).bind fun _ => (fX8_descend 20 x0 x1 0 0 p4.1 p4.2).bind fun h6 => (getL h6 7 x0 3).bind fun v7 => some (v7, h6)
theorem tX8_run_36 {L : Nat} {xs : Nat → Int32} {l : Launch} {res : Int × Hp} (x0 : Nat) (x1 : Nat) (h : Hp)  (H : fX8_run_36 x0 x1 h = some res) : J L xs l RX8 cX8_run 5 false 24 (QL res) 0 0 36 [(0, vr x0), (1, vr x1)] [] h := by
  unfold fX8_run_36 at H
  refine j_aload_n (i := 0) (pc' := 37) dX8_run_36 rfl rfl 0 rfl ?_
  obtain ⟨v1, e1, H⟩ := bs H
  refine j_getR (pc' := 40) dX8_run_37 rfl fl_X8_15 e1 (fun r1 => ?_)
  refine j_iconst (pc' := 41) dX8_run_40 rfl ?_
  obtain ⟨h2, e2, H⟩ := bs H
  refine j_cSv (y := yJ7_fill_53178) (dY := 1) (vs := [vr v1, vi 0]) (st := []) (pc' := 44) dX8_run_41 rfl ymJ7_fill_53178 ysJ7_fill_53178 ml_X8_44 (by decide) rfl (Nat.le_of_ble_eq_true rfl) (Nat.le_of_ble_eq_true rfl) (tJ7_fill_53178 v1 0 h ⟨by decide, by decide⟩ e2) (fun z2 => ?_)
  refine j_aload_n (i := 0) (pc' := 45) dX8_run_44 rfl rfl 0 rfl ?_
  refine j_aload_n (i := 1) (pc' := 46) dX8_run_45 rfl rfl 1 rfl ?_
  refine j_iconst (pc' := 47) dX8_run_46 rfl ?_
  refine j_iconst (pc' := 48) dX8_run_47 rfl ?_
  refine j_aload_n (i := 1) (pc' := 49) dX8_run_48 rfl rfl 1 rfl ?_
  refine j_aload_n (i := 0) (pc' := 50) dX8_run_49 rfl rfl 0 rfl ?_
  obtain ⟨v3, e3, H⟩ := bs H
  refine j_getI (pc' := 53) dX8_run_50 rfl fl_X8_26 e3 (fun r3 => ?_)
  obtain ⟨p4, e4, H⟩ := bs H
  refine j_cSl (y := yX0_ground) (dY := 2) (vs := [vr x1, vi v3]) (st := [vi 0, vi 0, vr x1, vr x0]) (pc' := 56) dX8_run_53 rfl ymX0_ground ysX0_ground ml_X8_50 (by decide) rfl (Nat.le_of_ble_eq_true rfl) (Nat.le_of_ble_eq_true rfl) (tX0_ground x1 v3 h2 r3 e4) (fun r4 z4 => ?_)
  obtain ⟨u5, e5, H⟩ := bs H
  obtain ⟨h6, e6, H⟩ := bs H
  refine j_cVv (y := yX8_descend) (dY := 23) (vs := [vr x1, vi 0, vi 0, vl p4.1]) (st := []) (q := x0) (pc' := 59) dX8_run_56 rfl ymX8_descend yvX8_descend ml_X8_56 (by decide) rfl (Nat.le_of_ble_eq_true rfl) (Nat.le_of_ble_eq_true rfl) e5 (tX8_descend x0 x1 0 0 p4.1 p4.2 ⟨by decide, by decide⟩ ⟨by decide, by decide⟩ r4 e6) (fun z6 => ?_)
  refine j_aload_n (i := 0) (pc' := 60) dX8_run_59 rfl rfl 0 rfl ?_
  obtain ⟨v7, e7, H⟩ := bs H
  refine j_getL (pc' := 63) dX8_run_60 rfl fl_X8_22 e7 (fun r7 => ?_)
  obtain rfl := Option.some.inj H
  exact j_lret dX8_run_63 r7 ⟨rfl, rfl⟩
noncomputable def fX8_run (a0 : Nat) (a1 : Nat) (a2 : Int) (a3 : Int) (a4 : Int) (h : Hp) : Option (Int × Hp) :=
  (putV h 7 a0 4 (vi a2)).bind fun h1 => (putV h1 7 a0 5 (vi a3)).bind fun h2 => (putV h2 7 a0 6 (vi a4)).bind fun h3 => (putV h3 7 a0 3 (vl 9223372036854775807)).bind fun h4 => (getI h4 7 a0 4).bind fun v5 => if v5 = 2 then (fX8_run_36 a0 a1 h4) else ((cob h4 7 a0).bind fun _ => (fX8_costAllHeaps a0 a1 h4).bind fun h8 => fX8_run_36 a0 a1 h8)
theorem tX8_run {L : Nat} {xs : Nat → Int32} {l : Launch} {res : Int × Hp} (a0 : Nat) (a1 : Nat) (a2 : Int) (a3 : Int) (a4 : Int) (h : Hp) (ra2 : R32 a2) (ra3 : R32 a3) (ra4 : R32 a4) (H : fX8_run a0 a1 a2 a3 a4 h = some res) : J L xs l RX8 cX8_run 5 false 24 (QL res) 0 0 0 (alv 0 [vr a0, vr a1, vi a2, vi a3, vi a4]) [] h := by
  unfold fX8_run at H
  show J L xs l RX8 cX8_run 5 false 24 (QL res) 0 0 0 [(0, vr a0), (1, vr a1), (2, vi a2), (3, vi a3), (4, vi a4)] [] h
  refine j_aload_n (i := 0) (pc' := 1) dX8_run_0 rfl rfl 0 rfl ?_
  refine j_iload_n (i := 2) (pc' := 2) dX8_run_1 rfl rfl 2 rfl ?_
  obtain ⟨h1, e1, H⟩ := bs H
  refine j_putV (pc' := 5) dX8_run_2 rfl fp_X8_26 tI ra2 e1 ?_
  refine j_aload_n (i := 0) (pc' := 6) dX8_run_5 rfl rfl 0 rfl ?_
  refine j_iload_n (i := 3) (pc' := 7) dX8_run_6 rfl rfl 3 rfl ?_
  obtain ⟨h2, e2, H⟩ := bs H
  refine j_putV (pc' := 10) dX8_run_7 rfl fp_X8_30 tI ra3 e2 ?_
  refine j_aload_n (i := 0) (pc' := 11) dX8_run_10 rfl rfl 0 rfl ?_
  refine j_iload (pc' := 13) dX8_run_11 rfl 4 rfl ?_
  obtain ⟨h3, e3, H⟩ := bs H
  refine j_putV (pc' := 16) dX8_run_13 rfl fp_X8_33 tI ra4 e3 ?_
  refine j_aload_n (i := 0) (pc' := 17) dX8_run_16 rfl rfl 0 rfl ?_
  refine j_ldc2 (z := 9223372036854775807) (pc' := 20) dX8_run_17 rfl kk_X8_38 (by decide +kernel) ?_
  obtain ⟨h4, e4, H⟩ := bs H
  refine j_putV (pc' := 23) dX8_run_20 rfl fp_X8_22 tL ⟨by decide, by decide⟩ e4 ?_
  refine j_aload_n (i := 0) (pc' := 24) dX8_run_23 rfl rfl 0 rfl ?_
  obtain ⟨v5, e5, H⟩ := bs H
  refine j_getI (pc' := 27) dX8_run_24 rfl fl_X8_26 e5 (fun r5 => ?_)
  refine j_iconst (pc' := 28) dX8_run_27 rfl ?_
  refine j_icmp_eq (tgt := 36) (pc' := 31) dX8_run_28 (by decide) rfl r5 ⟨by decide, by decide⟩ (fun c6 => ?_) (fun c6 => ?_)
  · rw [if_pos c6] at H
    refine j_sub (lv' := [(0, vr a0), (1, vr a1)]) [0, 1] rfl ?_
    exact tX8_run_36   a0 a1 h4  H
  · rw [if_neg c6] at H
    refine j_aload_n (i := 0) (pc' := 32) dX8_run_31 rfl rfl 0 rfl ?_
    refine j_aload_n (i := 1) (pc' := 33) dX8_run_32 rfl rfl 1 rfl ?_
    obtain ⟨u7, e7, H⟩ := bs H
    obtain ⟨h8, e8, H⟩ := bs H
    refine j_cVv (y := yX8_costAllHeaps) (dY := 5) (vs := [vr a1]) (st := []) (q := a0) (pc' := 36) dX8_run_33 rfl ymX8_costAllHeaps yvX8_costAllHeaps ml_X8_40 (by decide) rfl (Nat.le_of_ble_eq_true rfl) (Nat.le_of_ble_eq_true rfl) e7 (tX8_costAllHeaps a0 a1 h4 e8) (fun z8 => ?_)
    refine j_sub (lv' := [(0, vr a0), (1, vr a1)]) [0, 1] rfl ?_
    exact tX8_run_36   a0 a1 h8  H
-- X9_init
noncomputable def fX9_init (a0 : Nat) (h : Hp) : Option (Hp) :=
  (cob h 8 a0).bind fun _ => (putV h 8 a0 0 (vi (-1))).bind fun h2 => (putV h2 8 a0 1 (vi (-1))).bind fun h3 => (crf h3 a0).bind fun _ => (newO h3 (arr 1 8 (fun _ => 0))).bind fun p5 => (crf p5.2 p5.1).bind fun _ => (putV p5.2 8 a0 2 (vr p5.1)).bind fun h7 => some h7
theorem tX9_init {L : Nat} {xs : Nat → Int32} {l : Launch} {res : Hp} (a0 : Nat) (h : Hp)  (H : fX9_init a0 h = some res) : J L xs l RX9 cX9_init 1 true 1 (QV res) 1 8 0 (alv 0 [vr a0]) [] h := by
  unfold fX9_init at H
  show J L xs l RX9 cX9_init 1 true 1 (QV res) 1 8 0 [(0, vr a0)] [] h
  refine j_aload_n (i := 0) (pc' := 1) dX9_init_0 rfl rfl 0 rfl ?_
  obtain ⟨u1, e1, H⟩ := bs H
  refine j_objInit (pc' := 4) dX9_init_1 rfl ml_X9_3 oi_1 oi_2 (by decide) e1 (Nat.le_of_ble_eq_true rfl) ?_
  refine j_aload_n (i := 0) (pc' := 5) dX9_init_4 rfl rfl 0 rfl ?_
  refine j_iconst (pc' := 6) dX9_init_5 rfl ?_
  obtain ⟨h2, e2, H⟩ := bs H
  refine j_putV (pc' := 9) dX9_init_6 rfl fp_X9_9 tI ⟨by decide, by decide⟩ e2 ?_
  refine j_aload_n (i := 0) (pc' := 10) dX9_init_9 rfl rfl 0 rfl ?_
  refine j_iconst (pc' := 11) dX9_init_10 rfl ?_
  obtain ⟨h3, e3, H⟩ := bs H
  refine j_putV (pc' := 14) dX9_init_11 rfl fp_X9_15 tI ⟨by decide, by decide⟩ e3 ?_
  refine j_aload_n (i := 0) (pc' := 15) dX9_init_14 rfl rfl 0 rfl ?_
  refine j_bipush (pc' := 17) dX9_init_15 rfl (by decide +kernel) ?_
  obtain ⟨u4, e4, H⟩ := bs H
  obtain ⟨p5, e5, H⟩ := bs H
  refine j_newLp (N := 8) (rc := 0) (rs := 0) (pc' := 19) rfl (by decide) dX9_init_17 rfl ak_long ⟨(crf_R e4), trivial⟩ ⟨(crf_R e4), trivial⟩ e5 ?_
  obtain ⟨u6, e6, H⟩ := bs H
  obtain ⟨h7, e7, H⟩ := bs H
  refine j_putF (pc' := 22) dX9_init_19 rfl rfl fp_X9_18 tR (crf_R e6) e7 ?_
  obtain rfl := Option.some.inj H
  exact j_vret dX9_init_22 ⟨rfl, rfl⟩
-- X9_renew
noncomputable def fX9_renew (a0 : Nat) (a1 : Int) (a2 : Int) (h : Hp) : Option (Hp) :=
  (putV h 8 a0 0 (vi a1)).bind fun h1 => (putV h1 8 a0 1 (vi a2)).bind fun h2 => (getR h2 8 a0 2).bind fun v3 => (fJ7_fill_d0a16 v3 0 h2).bind fun h4 => some h4
theorem tX9_renew {L : Nat} {xs : Nat → Int32} {l : Launch} {res : Hp} (a0 : Nat) (a1 : Int) (a2 : Int) (h : Hp) (ra1 : R32 a1) (ra2 : R32 a2) (H : fX9_renew a0 a1 a2 h = some res) : J L xs l RX9 cX9_renew 3 false 2 (QV res) 0 0 0 (alv 0 [vr a0, vi a1, vi a2]) [] h := by
  unfold fX9_renew at H
  show J L xs l RX9 cX9_renew 3 false 2 (QV res) 0 0 0 [(0, vr a0), (1, vi a1), (2, vi a2)] [] h
  refine j_aload_n (i := 0) (pc' := 1) dX9_renew_0 rfl rfl 0 rfl ?_
  refine j_iload_n (i := 1) (pc' := 2) dX9_renew_1 rfl rfl 1 rfl ?_
  obtain ⟨h1, e1, H⟩ := bs H
  refine j_putV (pc' := 5) dX9_renew_2 rfl fp_X9_9 tI ra1 e1 ?_
  refine j_aload_n (i := 0) (pc' := 6) dX9_renew_5 rfl rfl 0 rfl ?_
  refine j_iload_n (i := 2) (pc' := 7) dX9_renew_6 rfl rfl 2 rfl ?_
  obtain ⟨h2, e2, H⟩ := bs H
  refine j_putV (pc' := 10) dX9_renew_7 rfl fp_X9_15 tI ra2 e2 ?_
  refine j_aload_n (i := 0) (pc' := 11) dX9_renew_10 rfl rfl 0 rfl ?_
  obtain ⟨v3, e3, H⟩ := bs H
  refine j_getR (pc' := 14) dX9_renew_11 rfl fl_X9_18 e3 (fun r3 => ?_)
  refine j_lconst (z := 0) (pc' := 15) dX9_renew_14 rfl rfl ?_
  obtain ⟨h4, e4, H⟩ := bs H
  refine j_cSv (y := yJ7_fill_d0a16) (dY := 1) (vs := [vr v3, vl 0]) (st := []) (pc' := 18) dX9_renew_15 rfl ymJ7_fill_d0a16 ysJ7_fill_d0a16 ml_X9_22 (by decide) rfl (Nat.le_of_ble_eq_true rfl) (Nat.le_of_ble_eq_true rfl) (tJ7_fill_d0a16 v3 0 h2 ⟨by decide, by decide⟩ e4) (fun z4 => ?_)
  obtain rfl := Option.some.inj H
  exact j_vret dX9_renew_18 ⟨rfl, rfl⟩
-- X9_drop
noncomputable def fX9_drop (a0 : Nat) (h : Hp) : Option (Hp) :=
  (cob h 8 a0).bind fun _ => (fX9_renew a0 (-1) (-1) h).bind fun h2 => some h2
theorem tX9_drop {L : Nat} {xs : Nat → Int32} {l : Launch} {res : Hp} (a0 : Nat) (h : Hp)  (H : fX9_drop a0 h = some res) : J L xs l RX9 cX9_drop 1 false 3 (QV res) 0 0 0 (alv 0 [vr a0]) [] h := by
  unfold fX9_drop at H
  show J L xs l RX9 cX9_drop 1 false 3 (QV res) 0 0 0 [(0, vr a0)] [] h
  refine j_aload_n (i := 0) (pc' := 1) dX9_drop_0 rfl rfl 0 rfl ?_
  refine j_iconst (pc' := 2) dX9_drop_1 rfl ?_
  refine j_iconst (pc' := 3) dX9_drop_2 rfl ?_
  obtain ⟨u1, e1, H⟩ := bs H
  obtain ⟨h2, e2, H⟩ := bs H
  refine j_cVv (y := yX9_renew) (dY := 2) (vs := [vi (-1), vi (-1)]) (st := []) (q := a0) (pc' := 6) dX9_drop_3 rfl ymX9_renew yvX9_renew ml_X9_28 (by decide) rfl (Nat.le_of_ble_eq_true rfl) (Nat.le_of_ble_eq_true rfl) e1 (tX9_renew a0 (-1) (-1) h ⟨by decide, by decide⟩ ⟨by decide, by decide⟩ e2) (fun z2 => ?_)
  obtain rfl := Option.some.inj H
  exact j_vret dX9_drop_6 ⟨rfl, rfl⟩
-- X9_write
noncomputable def fX9_write_77  (h : Hp) : Option (Hp) :=
  some h
theorem tX9_write_77 {L : Nat} {xs : Nat → Int32} {l : Launch} {res : Hp}  (h : Hp)  (H : fX9_write_77  h = some res) : J L xs l RX9 cX9_write 4 false 1 (QV res) 0 0 77 [] [] h := by
  unfold fX9_write_77 at H
  obtain rfl := Option.some.inj H
  exact j_vret dX9_write_77 ⟨rfl, rfl⟩
noncomputable def fX9_write (a0 : Nat) (a1 : Int) (a2 : Int) (h : Hp) : Option (Hp) :=
  (getI h 8 a0 0).bind fun v1 => if v1 = 0 then ((getR h 8 a0 2).bind fun v3 => (ast h 1 v3 a1 (w8 (l2w a2))).bind fun h4 => fX9_write_77 h4) else if v1 = 1 then ((getR h 8 a0 2).bind fun v6 => (ast h 1 v6 a1 (w16 (l2w a2))).bind fun h7 => fX9_write_77 h7) else if v1 = 2 then ((getR h 8 a0 2).bind fun v9 => (ast h 1 v9 a1 (l2w a2)).bind fun h10 => fX9_write_77 h10) else ((getR h 8 a0 2).bind fun v11 => (ast h 1 v11 a1 a2).bind fun h12 => fX9_write_77 h12)
theorem tX9_write {L : Nat} {xs : Nat → Int32} {l : Launch} {res : Hp} (a0 : Nat) (a1 : Int) (a2 : Int) (h : Hp) (ra1 : R32 a1) (ra2 : R64 a2) (H : fX9_write a0 a1 a2 h = some res) : J L xs l RX9 cX9_write 4 false 1 (QV res) 0 0 0 (alv 0 [vr a0, vi a1, vl a2]) [] h := by
  unfold fX9_write at H
  show J L xs l RX9 cX9_write 4 false 1 (QV res) 0 0 0 [(0, vr a0), (1, vi a1), (2, vl a2)] [] h
  refine j_aload_n (i := 0) (pc' := 1) dX9_write_0 rfl rfl 0 rfl ?_
  obtain ⟨v1, e1, H⟩ := bs H
  refine j_getI (pc' := 4) dX9_write_1 rfl fl_X9_9 e1 (fun r1 => ?_)
  by_cases c2 : v1 = 0
  · rw [if_pos c2] at H
    refine j_tabIn (tgt := 32) (off := 28) dX9_write_4 r1 (by omega) (by omega) (by rw [c2]; rfl) (by decide) ?_
    refine j_aload_n (i := 0) (pc' := 33) dX9_write_32 rfl rfl 0 rfl ?_
    obtain ⟨v3, e3, H⟩ := bs H
    refine j_getR (pc' := 36) dX9_write_33 rfl fl_X9_18 e3 (fun r3 => ?_)
    refine j_iload_n (i := 1) (pc' := 37) dX9_write_36 rfl rfl 1 rfl ?_
    refine j_lload_n (i := 2) (pc' := 38) dX9_write_37 rfl rfl 2 rfl ?_
    refine j_l2i (pc' := 39) dX9_write_38 rfl ?_
    refine j_i2b (pc' := 40) dX9_write_39 rfl ?_
    refine j_i2l (pc' := 41) dX9_write_40 rfl (R32_to _) ?_
    obtain ⟨h4, e4, H⟩ := bs H
    refine j_last (pc' := 42) dX9_write_41 rfl (R32_l (R32_to _)) e4 ?_
    refine j_goto (tgt := 77) dX9_write_42 (by decide) ?_
    refine j_sub (lv' := []) [] rfl ?_
    exact tX9_write_77   h4  H
  rw [if_neg c2] at H
  by_cases c5 : v1 = 1
  · rw [if_pos c5] at H
    refine j_tabIn (tgt := 45) (off := 41) dX9_write_4 r1 (by omega) (by omega) (by rw [c5]; rfl) (by decide) ?_
    refine j_aload_n (i := 0) (pc' := 46) dX9_write_45 rfl rfl 0 rfl ?_
    obtain ⟨v6, e6, H⟩ := bs H
    refine j_getR (pc' := 49) dX9_write_46 rfl fl_X9_18 e6 (fun r6 => ?_)
    refine j_iload_n (i := 1) (pc' := 50) dX9_write_49 rfl rfl 1 rfl ?_
    refine j_lload_n (i := 2) (pc' := 51) dX9_write_50 rfl rfl 2 rfl ?_
    refine j_l2i (pc' := 52) dX9_write_51 rfl ?_
    refine j_i2s (pc' := 53) dX9_write_52 rfl ?_
    refine j_i2l (pc' := 54) dX9_write_53 rfl (R32_to _) ?_
    obtain ⟨h7, e7, H⟩ := bs H
    refine j_last (pc' := 55) dX9_write_54 rfl (R32_l (R32_to _)) e7 ?_
    refine j_goto (tgt := 77) dX9_write_55 (by decide) ?_
    refine j_sub (lv' := []) [] rfl ?_
    exact tX9_write_77   h7  H
  rw [if_neg c5] at H
  by_cases c8 : v1 = 2
  · rw [if_pos c8] at H
    refine j_tabIn (tgt := 58) (off := 54) dX9_write_4 r1 (by omega) (by omega) (by rw [c8]; rfl) (by decide) ?_
    refine j_aload_n (i := 0) (pc' := 59) dX9_write_58 rfl rfl 0 rfl ?_
    obtain ⟨v9, e9, H⟩ := bs H
    refine j_getR (pc' := 62) dX9_write_59 rfl fl_X9_18 e9 (fun r9 => ?_)
    refine j_iload_n (i := 1) (pc' := 63) dX9_write_62 rfl rfl 1 rfl ?_
    refine j_lload_n (i := 2) (pc' := 64) dX9_write_63 rfl rfl 2 rfl ?_
    refine j_l2i (pc' := 65) dX9_write_64 rfl ?_
    refine j_i2l (pc' := 66) dX9_write_65 rfl (R32_to _) ?_
    obtain ⟨h10, e10, H⟩ := bs H
    refine j_last (pc' := 67) dX9_write_66 rfl (R32_l (R32_to _)) e10 ?_
    refine j_goto (tgt := 77) dX9_write_67 (by decide) ?_
    refine j_sub (lv' := []) [] rfl ?_
    exact tX9_write_77   h10  H
  rw [if_neg c8] at H
  refine j_tabOut (tgt := 70) dX9_write_4 r1 (by omega) (by decide) ?_
  refine j_aload_n (i := 0) (pc' := 71) dX9_write_70 rfl rfl 0 rfl ?_
  obtain ⟨v11, e11, H⟩ := bs H
  refine j_getR (pc' := 74) dX9_write_71 rfl fl_X9_18 e11 (fun r11 => ?_)
  refine j_iload_n (i := 1) (pc' := 75) dX9_write_74 rfl rfl 1 rfl ?_
  refine j_lload_n (i := 2) (pc' := 76) dX9_write_75 rfl rfl 2 rfl ?_
  obtain ⟨h12, e12, H⟩ := bs H
  refine j_last (pc' := 77) dX9_write_76 rfl ra2 e12 ?_
  refine j_sub (lv' := []) [] rfl ?_
  exact tX9_write_77   h12  H
-- X9_isPlace
noncomputable def fX9_isPlace_41  (h : Hp) : Option (Int × Hp) :=
  some (1, h)
theorem tX9_isPlace_41 {L : Nat} {xs : Nat → Int32} {l : Launch} {res : Int × Hp}  (h : Hp)  (H : fX9_isPlace_41  h = some res) : J L xs l RX9 cX9_isPlace 2 false 1 (QB res) 0 0 41 [] [] h := by
  unfold fX9_isPlace_41 at H
  refine j_iconst (pc' := 42) dX9_isPlace_41 rfl ?_
  obtain rfl := Option.some.inj H
  exact j_iret dX9_isPlace_42 ⟨by decide, by decide⟩ ⟨rfl, rfl, Or.inr rfl⟩
noncomputable def fX9_isPlace_33  (h : Hp) : Option (Int × Hp) :=
  some (0, h)
theorem tX9_isPlace_33 {L : Nat} {xs : Nat → Int32} {l : Launch} {res : Int × Hp}  (h : Hp)  (H : fX9_isPlace_33  h = some res) : J L xs l RX9 cX9_isPlace 2 false 1 (QB res) 0 0 33 [] [] h := by
  unfold fX9_isPlace_33 at H
  refine j_iconst (pc' := 34) dX9_isPlace_33 rfl ?_
  obtain rfl := Option.some.inj H
  exact j_iret dX9_isPlace_34 ⟨by decide, by decide⟩ ⟨rfl, rfl, Or.inl rfl⟩
noncomputable def fX9_isPlace_2 : Nat → Nat → Int → Hp → Option (Int × Hp)
  | 0, _, _, _ => none
  | n + 1, x0, x1, h => if 4 ≤ x1 then (fX9_isPlace_41 h) else ((getR h 8 x0 2).bind fun v2 => (ald h 1 v2 x1).bind fun v3 => if (lCmp v3 (-1000)) < 0 then (fX9_isPlace_33 h) else ((getR h 8 x0 2).bind fun v5 => (ald h 1 v5 x1).bind fun v6 => if (lCmp v6 1000) ≤ 0 then ((c32 (x1 + 1)).bind fun _ => fX9_isPlace_2 n x0 (x1 + 1) h) else (fX9_isPlace_33 h)))
theorem tX9_isPlace_2 {L : Nat} {xs : Nat → Int32} {l : Launch} {res : Int × Hp} : ∀ (n : Nat) (x0 : Nat) (x1 : Int) (h : Hp), R32 x1 → fX9_isPlace_2 n x0 x1 h = some res → J L xs l RX9 cX9_isPlace 2 false 1 (QB res) 0 0 2 [(0, vr x0), (1, vi x1)] [] h := by
  intro n
  induction n with
  | zero => intro x0 x1 h rx1 H; cases H
  | succ n ih =>
    intro x0 x1 h rx1 H
    rw [fX9_isPlace_2] at H
    refine j_iload_n (i := 1) (pc' := 3) dX9_isPlace_2 rfl rfl 1 rfl ?_
    refine j_iconst (pc' := 4) dX9_isPlace_3 rfl ?_
    refine j_icmp_ge (tgt := 41) (pc' := 7) dX9_isPlace_4 (by decide) rfl rx1 ⟨by decide, by decide⟩ (fun c1 => ?_) (fun c1 => ?_)
    · rw [if_pos c1] at H
      refine j_sub (lv' := []) [] rfl ?_
      exact tX9_isPlace_41   h  H
    · rw [if_neg c1] at H
      refine j_aload_n (i := 0) (pc' := 8) dX9_isPlace_7 rfl rfl 0 rfl ?_
      obtain ⟨v2, e2, H⟩ := bs H
      refine j_getR (pc' := 11) dX9_isPlace_8 rfl fl_X9_18 e2 (fun r2 => ?_)
      refine j_iload_n (i := 1) (pc' := 12) dX9_isPlace_11 rfl rfl 1 rfl ?_
      obtain ⟨v3, e3, H⟩ := bs H
      refine j_lald (pc' := 13) dX9_isPlace_12 rfl e3 (fun r3 => ?_)
      refine j_ldc2 (z := (-1000)) (pc' := 16) dX9_isPlace_13 rfl kk_X9_32 (by decide +kernel) ?_
      refine j_lcmp (pc' := 17) dX9_isPlace_16 rfl r3 ⟨by decide, by decide⟩ ?_
      refine j_if_lt (tgt := 33) (pc' := 20) dX9_isPlace_17 (by decide) rfl (R32_lcmp _ _) (fun c4 => ?_) (fun c4 => ?_)
      · rw [if_pos c4] at H
        refine j_sub (lv' := []) [] rfl ?_
        exact tX9_isPlace_33   h  H
      · rw [if_neg c4] at H
        refine j_aload_n (i := 0) (pc' := 21) dX9_isPlace_20 rfl rfl 0 rfl ?_
        obtain ⟨v5, e5, H⟩ := bs H
        refine j_getR (pc' := 24) dX9_isPlace_21 rfl fl_X9_18 e5 (fun r5 => ?_)
        refine j_iload_n (i := 1) (pc' := 25) dX9_isPlace_24 rfl rfl 1 rfl ?_
        obtain ⟨v6, e6, H⟩ := bs H
        refine j_lald (pc' := 26) dX9_isPlace_25 rfl e6 (fun r6 => ?_)
        refine j_ldc2 (z := 1000) (pc' := 29) dX9_isPlace_26 rfl kk_X9_34 (by decide +kernel) ?_
        refine j_lcmp (pc' := 30) dX9_isPlace_29 rfl r6 ⟨by decide, by decide⟩ ?_
        refine j_if_le (tgt := 35) (pc' := 33) dX9_isPlace_30 (by decide) rfl (R32_lcmp _ _) (fun c7 => ?_) (fun c7 => ?_)
        · rw [if_pos c7] at H
          obtain ⟨u8, e8, H⟩ := bs H
          have r8 := c32_R e8
          refine j_iinc (k0 := 1) (lv' := [(0, vr x0), (1, vi (x1 + 1))]) (pc' := 38) dX9_isPlace_35 rfl rfl (by decide) [1, 0] rfl ?_
          refine j_goto (tgt := 2) dX9_isPlace_38 (by decide) ?_
          exact ih x0 (x1 + 1) h r8 H
        · rw [if_neg c7] at H
          refine j_sub (lv' := []) [] rfl ?_
          exact tX9_isPlace_33   h  H
noncomputable def fX9_isPlace (a0 : Nat) (h : Hp) : Option (Int × Hp) :=
  fX9_isPlace_2 FU a0 0 h
theorem tX9_isPlace {L : Nat} {xs : Nat → Int32} {l : Launch} {res : Int × Hp} (a0 : Nat) (h : Hp)  (H : fX9_isPlace a0 h = some res) : J L xs l RX9 cX9_isPlace 2 false 1 (QB res) 0 0 0 (alv 0 [vr a0]) [] h := by
  unfold fX9_isPlace at H
  show J L xs l RX9 cX9_isPlace 2 false 1 (QB res) 0 0 0 [(0, vr a0)] [] h
  refine j_iconst (pc' := 1) dX9_isPlace_0 rfl ?_
  refine j_istore_n (i := 1) (lv' := [(0, vr a0), (1, vi 0)]) (pc' := 2) dX9_isPlace_1 rfl rfl (by decide) [1, 0] rfl ?_
  exact tX9_isPlace_2   FU a0 0 h ⟨by decide, by decide⟩ H
-- X10_init
noncomputable def fX10_init (a0 : Nat) (h : Hp) : Option (Hp) :=
  (cob h 9 a0).bind fun _ => (putV h 9 a0 0 (vi (-1))).bind fun h2 => (putV h2 9 a0 1 (vi 0)).bind fun h3 => (crf h3 a0).bind fun _ => (newO h3 (arr 0 12 (fun _ => 0))).bind fun p5 => (crf p5.2 p5.1).bind fun _ => (putV p5.2 9 a0 2 (vr p5.1)).bind fun h7 => (crf h7 a0).bind fun _ => (newO h7 (arr 0 12 (fun _ => 0))).bind fun p9 => (crf p9.2 p9.1).bind fun _ => (putV p9.2 9 a0 3 (vr p9.1)).bind fun h11 => (crf h11 a0).bind fun _ => (newO h11 (arr 0 12 (fun _ => 0))).bind fun p13 => (crf p13.2 p13.1).bind fun _ => (putV p13.2 9 a0 4 (vr p13.1)).bind fun h15 => (crf h15 a0).bind fun _ => (newO h15 (arr 0 144 (fun _ => 0))).bind fun p17 => (crf p17.2 p17.1).bind fun _ => (putV p17.2 9 a0 5 (vr p17.1)).bind fun h19 => (putV h19 9 a0 6 (vi 0)).bind fun h20 => some h20
theorem tX10_init {L : Nat} {xs : Nat → Int32} {l : Launch} {res : Hp} (a0 : Nat) (h : Hp)  (H : fX10_init a0 h = some res) : J L xs l RX10 cX10_init 1 true 1 (QV res) 4 180 0 (alv 0 [vr a0]) [] h := by
  unfold fX10_init at H
  show J L xs l RX10 cX10_init 1 true 1 (QV res) 4 180 0 [(0, vr a0)] [] h
  refine j_aload_n (i := 0) (pc' := 1) dX10_init_0 rfl rfl 0 rfl ?_
  obtain ⟨u1, e1, H⟩ := bs H
  refine j_objInit (pc' := 4) dX10_init_1 rfl ml_X10_3 oi_1 oi_2 (by decide) e1 (Nat.le_of_ble_eq_true rfl) ?_
  refine j_aload_n (i := 0) (pc' := 5) dX10_init_4 rfl rfl 0 rfl ?_
  refine j_iconst (pc' := 6) dX10_init_5 rfl ?_
  obtain ⟨h2, e2, H⟩ := bs H
  refine j_putV (pc' := 9) dX10_init_6 rfl fp_X10_9 tI ⟨by decide, by decide⟩ e2 ?_
  refine j_aload_n (i := 0) (pc' := 10) dX10_init_9 rfl rfl 0 rfl ?_
  refine j_iconst (pc' := 11) dX10_init_10 rfl ?_
  obtain ⟨h3, e3, H⟩ := bs H
  refine j_putV (pc' := 14) dX10_init_11 rfl fp_X10_15 tI ⟨by decide, by decide⟩ e3 ?_
  refine j_aload_n (i := 0) (pc' := 15) dX10_init_14 rfl rfl 0 rfl ?_
  refine j_bipush (pc' := 17) dX10_init_15 rfl (by decide +kernel) ?_
  obtain ⟨u4, e4, H⟩ := bs H
  obtain ⟨p5, e5, H⟩ := bs H
  refine j_newIp (N := 12) (rc := 3) (rs := 168) (pc' := 19) rfl (by decide) dX10_init_17 rfl ak_int ⟨(crf_R e4), trivial⟩ ⟨(crf_R e4), trivial⟩ e5 ?_
  obtain ⟨u6, e6, H⟩ := bs H
  obtain ⟨h7, e7, H⟩ := bs H
  refine j_putF (pc' := 22) dX10_init_19 rfl rfl fp_X10_18 tR (crf_R e6) e7 ?_
  refine j_aload_n (i := 0) (pc' := 23) dX10_init_22 rfl rfl 0 rfl ?_
  refine j_bipush (pc' := 25) dX10_init_23 rfl (by decide +kernel) ?_
  obtain ⟨u8, e8, H⟩ := bs H
  obtain ⟨p9, e9, H⟩ := bs H
  refine j_newIp (N := 12) (rc := 2) (rs := 156) (pc' := 27) rfl (by decide) dX10_init_25 rfl ak_int ⟨(crf_R e8), trivial⟩ ⟨(crf_R e8), trivial⟩ e9 ?_
  obtain ⟨u10, e10, H⟩ := bs H
  obtain ⟨h11, e11, H⟩ := bs H
  refine j_putF (pc' := 30) dX10_init_27 rfl rfl fp_X10_22 tR (crf_R e10) e11 ?_
  refine j_aload_n (i := 0) (pc' := 31) dX10_init_30 rfl rfl 0 rfl ?_
  refine j_bipush (pc' := 33) dX10_init_31 rfl (by decide +kernel) ?_
  obtain ⟨u12, e12, H⟩ := bs H
  obtain ⟨p13, e13, H⟩ := bs H
  refine j_newIp (N := 12) (rc := 1) (rs := 144) (pc' := 35) rfl (by decide) dX10_init_33 rfl ak_int ⟨(crf_R e12), trivial⟩ ⟨(crf_R e12), trivial⟩ e13 ?_
  obtain ⟨u14, e14, H⟩ := bs H
  obtain ⟨h15, e15, H⟩ := bs H
  refine j_putF (pc' := 38) dX10_init_35 rfl rfl fp_X10_25 tR (crf_R e14) e15 ?_
  refine j_aload_n (i := 0) (pc' := 39) dX10_init_38 rfl rfl 0 rfl ?_
  refine j_sipush (pc' := 42) dX10_init_39 rfl (by decide +kernel) ?_
  obtain ⟨u16, e16, H⟩ := bs H
  obtain ⟨p17, e17, H⟩ := bs H
  refine j_newIp (N := 144) (rc := 0) (rs := 0) (pc' := 44) rfl (by decide) dX10_init_42 rfl ak_int ⟨(crf_R e16), trivial⟩ ⟨(crf_R e16), trivial⟩ e17 ?_
  obtain ⟨u18, e18, H⟩ := bs H
  obtain ⟨h19, e19, H⟩ := bs H
  refine j_putF (pc' := 47) dX10_init_44 rfl rfl fp_X10_28 tR (crf_R e18) e19 ?_
  refine j_aload_n (i := 0) (pc' := 48) dX10_init_47 rfl rfl 0 rfl ?_
  refine j_iconst (pc' := 49) dX10_init_48 rfl ?_
  obtain ⟨h20, e20, H⟩ := bs H
  refine j_putV (pc' := 52) dX10_init_49 rfl fp_X10_31 tI ⟨by decide, by decide⟩ e20 ?_
  obtain rfl := Option.some.inj H
  exact j_vret dX10_init_52 ⟨rfl, rfl⟩
-- X10_drop
noncomputable def fX10_drop (a0 : Nat) (h : Hp) : Option (Hp) :=
  (putV h 9 a0 0 (vi (-1))).bind fun h1 => some h1
theorem tX10_drop {L : Nat} {xs : Nat → Int32} {l : Launch} {res : Hp} (a0 : Nat) (h : Hp)  (H : fX10_drop a0 h = some res) : J L xs l RX10 cX10_drop 1 false 1 (QV res) 0 0 0 (alv 0 [vr a0]) [] h := by
  unfold fX10_drop at H
  show J L xs l RX10 cX10_drop 1 false 1 (QV res) 0 0 0 [(0, vr a0)] [] h
  refine j_aload_n (i := 0) (pc' := 1) dX10_drop_0 rfl rfl 0 rfl ?_
  refine j_iconst (pc' := 2) dX10_drop_1 rfl ?_
  obtain ⟨h1, e1, H⟩ := bs H
  refine j_putV (pc' := 5) dX10_drop_2 rfl fp_X10_9 tI ⟨by decide, by decide⟩ e1 ?_
  obtain rfl := Option.some.inj H
  exact j_vret dX10_drop_5 ⟨rfl, rfl⟩
-- X10_findLowest
noncomputable def fX10_findLowest_110  (h : Hp) : Option (Hp) :=
  some h
theorem tX10_findLowest_110 {L : Nat} {xs : Nat → Int32} {l : Launch} {res : Hp}  (h : Hp)  (H : fX10_findLowest_110  h = some res) : J L xs l RX10 cX10_findLowest 5 false 2 (QV res) 0 0 110 [] [] h := by
  unfold fX10_findLowest_110 at H
  obtain rfl := Option.some.inj H
  exact j_vret dX10_findLowest_110 ⟨rfl, rfl⟩
noncomputable def fX10_findLowest_104 (k10 : Nat → Int → Int → Hp → Option (Hp)) (x0 : Nat) (x1 : Int) (x2 : Int) (h : Hp) : Option (Hp) :=
  (c32 (x2 + 1)).bind fun _ => k10 x0 x1 (x2 + 1) h
theorem tX10_findLowest_104 {L : Nat} {xs : Nat → Int32} {l : Launch} {res : Hp} (k10 : Nat → Int → Int → Hp → Option (Hp)) (hk10 : ∀ (x0 : Nat) (x1 : Int) (x2 : Int) (h : Hp), R32 x1 → R32 x2 → k10 x0 x1 x2 h = some res → J L xs l RX10 cX10_findLowest 5 false 2 (QV res) 0 0 10 [(0, vr x0), (1, vi x1), (2, vi x2)] [] h) (x0 : Nat) (x1 : Int) (x2 : Int) (h : Hp) (rx1 : R32 x1) (rx2 : R32 x2) (H : fX10_findLowest_104 k10 x0 x1 x2 h = some res) : J L xs l RX10 cX10_findLowest 5 false 2 (QV res) 0 0 104 [(0, vr x0), (1, vi x1), (2, vi x2)] [] h := by
  unfold fX10_findLowest_104 at H
  obtain ⟨u1, e1, H⟩ := bs H
  have r1 := c32_R e1
  refine j_iinc (k0 := 2) (lv' := [(0, vr x0), (1, vi x1), (2, vi (x2 + 1))]) (pc' := 107) dX10_findLowest_104 rfl rfl (by decide) [1, 2, 0] rfl ?_
  refine j_goto (tgt := 10) dX10_findLowest_107 (by decide) ?_
  exact hk10 x0 x1 (x2 + 1) h rx1 r1 H
noncomputable def fX10_findLowest_98 (k10 : Nat → Int → Int → Hp → Option (Hp)) (k22 : Nat → Int → Int → Int → Hp → Option (Hp)) (x0 : Nat) (x1 : Int) (x2 : Int) (x3 : Int) (h : Hp) : Option (Hp) :=
  (c32 (x3 + 1)).bind fun _ => k22 x0 x1 x2 (x3 + 1) h
theorem tX10_findLowest_98 {L : Nat} {xs : Nat → Int32} {l : Launch} {res : Hp} (k10 : Nat → Int → Int → Hp → Option (Hp)) (k22 : Nat → Int → Int → Int → Hp → Option (Hp)) (hk10 : ∀ (x0 : Nat) (x1 : Int) (x2 : Int) (h : Hp), R32 x1 → R32 x2 → k10 x0 x1 x2 h = some res → J L xs l RX10 cX10_findLowest 5 false 2 (QV res) 0 0 10 [(0, vr x0), (1, vi x1), (2, vi x2)] [] h) (hk22 : ∀ (x0 : Nat) (x1 : Int) (x2 : Int) (x3 : Int) (h : Hp), R32 x1 → R32 x2 → R32 x3 → k22 x0 x1 x2 x3 h = some res → J L xs l RX10 cX10_findLowest 5 false 2 (QV res) 0 0 22 [(0, vr x0), (1, vi x1), (2, vi x2), (3, vi x3)] [] h) (x0 : Nat) (x1 : Int) (x2 : Int) (x3 : Int) (h : Hp) (rx1 : R32 x1) (rx2 : R32 x2) (rx3 : R32 x3) (H : fX10_findLowest_98 k10 k22 x0 x1 x2 x3 h = some res) : J L xs l RX10 cX10_findLowest 5 false 2 (QV res) 0 0 98 [(0, vr x0), (1, vi x1), (2, vi x2), (3, vi x3)] [] h := by
  unfold fX10_findLowest_98 at H
  obtain ⟨u1, e1, H⟩ := bs H
  have r1 := c32_R e1
  refine j_iinc (k0 := 3) (lv' := [(0, vr x0), (1, vi x1), (2, vi x2), (3, vi (x3 + 1))]) (pc' := 101) dX10_findLowest_98 rfl rfl (by decide) [1, 2, 3, 0] rfl ?_
  refine j_goto (tgt := 22) dX10_findLowest_101 (by decide) ?_
  exact hk22 x0 x1 x2 (x3 + 1) h rx1 rx2 r1 H
noncomputable def fX10_findLowest_22 (k10 : Nat → Int → Int → Hp → Option (Hp)) : Nat → Nat → Int → Int → Int → Hp → Option (Hp)
  | 0, _, _, _, _, _ => none
  | n + 1, x0, x1, x2, x3, h => (getI h 9 x0 1).bind fun v1 => if v1 ≤ x3 then (fX10_findLowest_104 k10 x0 x1 x2 h) else ((getI h 9 x0 6).bind fun v3 => (fX0_has v3 x2 h).bind fun p4 => if p4.1 = 0 then (fX10_findLowest_104 k10 x0 x1 x2 p4.2) else ((getR p4.2 9 x0 5).bind fun v6 => (ald p4.2 0 v6 ((x2 * 12) + x3)).bind fun v7 => (getI p4.2 9 x0 6).bind fun v8 => (fX0_has v8 x3 p4.2).bind fun p9 => if p9.1 = 0 then (fX10_findLowest_98 k10 (fX10_findLowest_22 k10 n) x0 x1 x2 x3 p9.2) else ((getR p9.2 9 x0 4).bind fun v11 => (ald p9.2 0 v11 x1).bind fun v12 => if v12 ≤ v7 then (fX10_findLowest_98 k10 (fX10_findLowest_22 k10 n) x0 x1 x2 x3 p9.2) else ((getR p9.2 9 x0 2).bind fun v14 => (ast p9.2 0 v14 x1 x2).bind fun h15 => (getR h15 9 x0 3).bind fun v16 => (ast h15 0 v16 x1 x3).bind fun h17 => (getR h17 9 x0 4).bind fun v18 => (ast h17 0 v18 x1 v7).bind fun h19 => fX10_findLowest_98 k10 (fX10_findLowest_22 k10 n) x0 x1 x2 x3 h19))))
theorem tX10_findLowest_22 {L : Nat} {xs : Nat → Int32} {l : Launch} {res : Hp} (k10 : Nat → Int → Int → Hp → Option (Hp)) (hk10 : ∀ (x0 : Nat) (x1 : Int) (x2 : Int) (h : Hp), R32 x1 → R32 x2 → k10 x0 x1 x2 h = some res → J L xs l RX10 cX10_findLowest 5 false 2 (QV res) 0 0 10 [(0, vr x0), (1, vi x1), (2, vi x2)] [] h) : ∀ (n : Nat) (x0 : Nat) (x1 : Int) (x2 : Int) (x3 : Int) (h : Hp), R32 x1 → R32 x2 → R32 x3 → fX10_findLowest_22 k10 n x0 x1 x2 x3 h = some res → J L xs l RX10 cX10_findLowest 5 false 2 (QV res) 0 0 22 [(0, vr x0), (1, vi x1), (2, vi x2), (3, vi x3)] [] h := by
  intro n
  induction n with
  | zero => intro x0 x1 x2 x3 h rx1 rx2 rx3 H; cases H
  | succ n ih =>
    intro x0 x1 x2 x3 h rx1 rx2 rx3 H
    rw [fX10_findLowest_22] at H
    refine j_iload_n (i := 3) (pc' := 23) dX10_findLowest_22 rfl rfl 3 rfl ?_
    refine j_aload_n (i := 0) (pc' := 24) dX10_findLowest_23 rfl rfl 0 rfl ?_
    obtain ⟨v1, e1, H⟩ := bs H
    refine j_getI (pc' := 27) dX10_findLowest_24 rfl fl_X10_15 e1 (fun r1 => ?_)
    refine j_icmp_ge (tgt := 104) (pc' := 30) dX10_findLowest_27 (by decide) rfl rx3 r1 (fun c2 => ?_) (fun c2 => ?_)
    · rw [if_pos c2] at H
      refine j_sub (lv' := [(0, vr x0), (1, vi x1), (2, vi x2)]) [0, 1, 2] rfl ?_
      exact tX10_findLowest_104 _ hk10 x0 x1 x2 h rx1 rx2 H
    · rw [if_neg c2] at H
      refine j_aload_n (i := 0) (pc' := 31) dX10_findLowest_30 rfl rfl 0 rfl ?_
      obtain ⟨v3, e3, H⟩ := bs H
      refine j_getI (pc' := 34) dX10_findLowest_31 rfl fl_X10_31 e3 (fun r3 => ?_)
      refine j_iload_n (i := 2) (pc' := 35) dX10_findLowest_34 rfl rfl 2 rfl ?_
      obtain ⟨p4, e4, H⟩ := bs H
      refine j_cSb (y := yX0_has) (dY := 1) (vs := [vi v3, vi x2]) (st := []) (pc' := 38) dX10_findLowest_35 rfl ymX0_has ysX0_has ml_X10_57 (by decide) rfl (Nat.le_of_ble_eq_true rfl) (Nat.le_of_ble_eq_true rfl) (tX0_has v3 x2 h r3 rx2 e4) (fun r4 b4 z4 => ?_)
      refine j_if_eq (tgt := 104) (pc' := 41) dX10_findLowest_38 (by decide) rfl r4 (fun c5 => ?_) (fun c5 => ?_)
      · rw [if_pos c5] at H
        refine j_sub (lv' := [(0, vr x0), (1, vi x1), (2, vi x2)]) [0, 1, 2] rfl ?_
        exact tX10_findLowest_104 _ hk10 x0 x1 x2 p4.2 rx1 rx2 H
      · rw [if_neg c5] at H
        refine j_aload_n (i := 0) (pc' := 42) dX10_findLowest_41 rfl rfl 0 rfl ?_
        obtain ⟨v6, e6, H⟩ := bs H
        refine j_getR (pc' := 45) dX10_findLowest_42 rfl fl_X10_28 e6 (fun r6 => ?_)
        refine j_iload_n (i := 2) (pc' := 46) dX10_findLowest_45 rfl rfl 2 rfl ?_
        refine j_bipush (pc' := 48) dX10_findLowest_46 rfl (by decide +kernel) ?_
        refine j_imul (pc' := 49) dX10_findLowest_48 rfl ?_
        refine j_iload_n (i := 3) (pc' := 50) dX10_findLowest_49 rfl rfl 3 rfl ?_
        refine j_iadd (pc' := 51) dX10_findLowest_50 rfl ?_
        obtain ⟨v7, e7, H⟩ := bs H
        refine j_iald (pc' := 52) dX10_findLowest_51 rfl e7 (fun r7 => ?_)
        refine j_istore (lv' := [(0, vr x0), (1, vi x1), (2, vi x2), (3, vi x3), (4, vi v7)]) (pc' := 54) dX10_findLowest_52 rfl (by decide) [1, 2, 3, 4, 0] rfl ?_
        refine j_aload_n (i := 0) (pc' := 55) dX10_findLowest_54 rfl rfl 0 rfl ?_
        obtain ⟨v8, e8, H⟩ := bs H
        refine j_getI (pc' := 58) dX10_findLowest_55 rfl fl_X10_31 e8 (fun r8 => ?_)
        refine j_iload_n (i := 3) (pc' := 59) dX10_findLowest_58 rfl rfl 3 rfl ?_
        obtain ⟨p9, e9, H⟩ := bs H
        refine j_cSb (y := yX0_has) (dY := 1) (vs := [vi v8, vi x3]) (st := []) (pc' := 62) dX10_findLowest_59 rfl ymX0_has ysX0_has ml_X10_57 (by decide) rfl (Nat.le_of_ble_eq_true rfl) (Nat.le_of_ble_eq_true rfl) (tX0_has v8 x3 p4.2 r8 rx3 e9) (fun r9 b9 z9 => ?_)
        refine j_if_eq (tgt := 98) (pc' := 65) dX10_findLowest_62 (by decide) rfl r9 (fun c10 => ?_) (fun c10 => ?_)
        · rw [if_pos c10] at H
          refine j_sub (lv' := [(0, vr x0), (1, vi x1), (2, vi x2), (3, vi x3)]) [0, 1, 2, 3] rfl ?_
          exact tX10_findLowest_98 _ _ hk10 ih x0 x1 x2 x3 p9.2 rx1 rx2 rx3 H
        · rw [if_neg c10] at H
          refine j_iload (pc' := 67) dX10_findLowest_65 rfl 4 rfl ?_
          refine j_aload_n (i := 0) (pc' := 68) dX10_findLowest_67 rfl rfl 0 rfl ?_
          obtain ⟨v11, e11, H⟩ := bs H
          refine j_getR (pc' := 71) dX10_findLowest_68 rfl fl_X10_25 e11 (fun r11 => ?_)
          refine j_iload_n (i := 1) (pc' := 72) dX10_findLowest_71 rfl rfl 1 rfl ?_
          obtain ⟨v12, e12, H⟩ := bs H
          refine j_iald (pc' := 73) dX10_findLowest_72 rfl e12 (fun r12 => ?_)
          refine j_icmp_ge (tgt := 98) (pc' := 76) dX10_findLowest_73 (by decide) rfl r7 r12 (fun c13 => ?_) (fun c13 => ?_)
          · rw [if_pos c13] at H
            refine j_sub (lv' := [(0, vr x0), (1, vi x1), (2, vi x2), (3, vi x3)]) [0, 1, 2, 3] rfl ?_
            exact tX10_findLowest_98 _ _ hk10 ih x0 x1 x2 x3 p9.2 rx1 rx2 rx3 H
          · rw [if_neg c13] at H
            refine j_aload_n (i := 0) (pc' := 77) dX10_findLowest_76 rfl rfl 0 rfl ?_
            obtain ⟨v14, e14, H⟩ := bs H
            refine j_getR (pc' := 80) dX10_findLowest_77 rfl fl_X10_18 e14 (fun r14 => ?_)
            refine j_iload_n (i := 1) (pc' := 81) dX10_findLowest_80 rfl rfl 1 rfl ?_
            refine j_iload_n (i := 2) (pc' := 82) dX10_findLowest_81 rfl rfl 2 rfl ?_
            obtain ⟨h15, e15, H⟩ := bs H
            refine j_iast (pc' := 83) dX10_findLowest_82 rfl rx2 e15 ?_
            refine j_aload_n (i := 0) (pc' := 84) dX10_findLowest_83 rfl rfl 0 rfl ?_
            obtain ⟨v16, e16, H⟩ := bs H
            refine j_getR (pc' := 87) dX10_findLowest_84 rfl fl_X10_22 e16 (fun r16 => ?_)
            refine j_iload_n (i := 1) (pc' := 88) dX10_findLowest_87 rfl rfl 1 rfl ?_
            refine j_iload_n (i := 3) (pc' := 89) dX10_findLowest_88 rfl rfl 3 rfl ?_
            obtain ⟨h17, e17, H⟩ := bs H
            refine j_iast (pc' := 90) dX10_findLowest_89 rfl rx3 e17 ?_
            refine j_aload_n (i := 0) (pc' := 91) dX10_findLowest_90 rfl rfl 0 rfl ?_
            obtain ⟨v18, e18, H⟩ := bs H
            refine j_getR (pc' := 94) dX10_findLowest_91 rfl fl_X10_25 e18 (fun r18 => ?_)
            refine j_iload_n (i := 1) (pc' := 95) dX10_findLowest_94 rfl rfl 1 rfl ?_
            refine j_iload (pc' := 97) dX10_findLowest_95 rfl 4 rfl ?_
            obtain ⟨h19, e19, H⟩ := bs H
            refine j_iast (pc' := 98) dX10_findLowest_97 rfl r7 e19 ?_
            refine j_sub (lv' := [(0, vr x0), (1, vi x1), (2, vi x2), (3, vi x3)]) [0, 1, 2, 3] rfl ?_
            exact tX10_findLowest_98 _ _ hk10 ih x0 x1 x2 x3 h19 rx1 rx2 rx3 H
noncomputable def fX10_findLowest_10 : Nat → Nat → Int → Int → Hp → Option (Hp)
  | 0, _, _, _, _ => none
  | n + 1, x0, x1, x2, h => (getI h 9 x0 1).bind fun v1 => if v1 ≤ x2 then (fX10_findLowest_110 h) else ((c32 (x2 + 1)).bind fun _ => fX10_findLowest_22 (fX10_findLowest_10 n) FU x0 x1 x2 (x2 + 1) h)
theorem tX10_findLowest_10 {L : Nat} {xs : Nat → Int32} {l : Launch} {res : Hp} : ∀ (n : Nat) (x0 : Nat) (x1 : Int) (x2 : Int) (h : Hp), R32 x1 → R32 x2 → fX10_findLowest_10 n x0 x1 x2 h = some res → J L xs l RX10 cX10_findLowest 5 false 2 (QV res) 0 0 10 [(0, vr x0), (1, vi x1), (2, vi x2)] [] h := by
  intro n
  induction n with
  | zero => intro x0 x1 x2 h rx1 rx2 H; cases H
  | succ n ih =>
    intro x0 x1 x2 h rx1 rx2 H
    rw [fX10_findLowest_10] at H
    refine j_iload_n (i := 2) (pc' := 11) dX10_findLowest_10 rfl rfl 2 rfl ?_
    refine j_aload_n (i := 0) (pc' := 12) dX10_findLowest_11 rfl rfl 0 rfl ?_
    obtain ⟨v1, e1, H⟩ := bs H
    refine j_getI (pc' := 15) dX10_findLowest_12 rfl fl_X10_15 e1 (fun r1 => ?_)
    refine j_icmp_ge (tgt := 110) (pc' := 18) dX10_findLowest_15 (by decide) rfl rx2 r1 (fun c2 => ?_) (fun c2 => ?_)
    · rw [if_pos c2] at H
      refine j_sub (lv' := []) [] rfl ?_
      exact tX10_findLowest_110   h  H
    · rw [if_neg c2] at H
      refine j_iload_n (i := 2) (pc' := 19) dX10_findLowest_18 rfl rfl 2 rfl ?_
      refine j_iconst (pc' := 20) dX10_findLowest_19 rfl ?_
      refine j_iadd (pc' := 21) dX10_findLowest_20 rfl ?_
      obtain ⟨u3, e3, H⟩ := bs H
      have r3 := c32_R e3
      refine j_istore_n (i := 3) (lv' := [(0, vr x0), (1, vi x1), (2, vi x2), (3, vi (x2 + 1))]) (pc' := 22) dX10_findLowest_21 rfl rfl (by decide) [1, 2, 3, 0] rfl ?_
      exact tX10_findLowest_22 _ ih FU x0 x1 x2 (x2 + 1) h rx1 rx2 r3 H
noncomputable def fX10_findLowest (a0 : Nat) (a1 : Int) (h : Hp) : Option (Hp) :=
  (getR h 9 a0 4).bind fun v1 => (ast h 0 v1 a1 2147483647).bind fun h2 => fX10_findLowest_10 FU a0 a1 0 h2
theorem tX10_findLowest {L : Nat} {xs : Nat → Int32} {l : Launch} {res : Hp} (a0 : Nat) (a1 : Int) (h : Hp) (ra1 : R32 a1) (H : fX10_findLowest a0 a1 h = some res) : J L xs l RX10 cX10_findLowest 5 false 2 (QV res) 0 0 0 (alv 0 [vr a0, vi a1]) [] h := by
  unfold fX10_findLowest at H
  show J L xs l RX10 cX10_findLowest 5 false 2 (QV res) 0 0 0 [(0, vr a0), (1, vi a1)] [] h
  refine j_aload_n (i := 0) (pc' := 1) dX10_findLowest_0 rfl rfl 0 rfl ?_
  obtain ⟨v1, e1, H⟩ := bs H
  refine j_getR (pc' := 4) dX10_findLowest_1 rfl fl_X10_25 e1 (fun r1 => ?_)
  refine j_iload_n (i := 1) (pc' := 5) dX10_findLowest_4 rfl rfl 1 rfl ?_
  refine j_ldc (z := 2147483647) (pc' := 7) dX10_findLowest_5 rfl kk_X10_56 (by decide +kernel) ?_
  obtain ⟨h2, e2, H⟩ := bs H
  refine j_iast (pc' := 8) dX10_findLowest_7 rfl ⟨by decide, by decide⟩ e2 ?_
  refine j_iconst (pc' := 9) dX10_findLowest_8 rfl ?_
  refine j_istore_n (i := 2) (lv' := [(0, vr a0), (1, vi a1), (2, vi 0)]) (pc' := 10) dX10_findLowest_9 rfl rfl (by decide) [1, 2, 0] rfl ?_
  exact tX10_findLowest_10   FU a0 a1 0 h2 ra1 ⟨by decide, by decide⟩ H
-- X10_joinLowest
noncomputable def fX10_joinLowest_128  (h : Hp) : Option (Hp) :=
  some h
theorem tX10_joinLowest_128 {L : Nat} {xs : Nat → Int32} {l : Launch} {res : Hp}  (h : Hp)  (H : fX10_joinLowest_128  h = some res) : J L xs l RX10 cX10_joinLowest 9 false 1 (QV res) 0 0 128 [] [] h := by
  unfold fX10_joinLowest_128 at H
  obtain rfl := Option.some.inj H
  exact j_vret dX10_joinLowest_128 ⟨rfl, rfl⟩
noncomputable def fX10_joinLowest_92 (k33 : Nat → Int → Int → Int → Int → Hp → Option (Hp)) (x0 : Nat) (x2 : Int) (x3 : Int) (x4 : Int) (x5 : Int) (s0 : Int) (h : Hp) : Option (Hp) :=
  (getR h 9 x0 5).bind fun v1 => (ast h 0 v1 ((x3 * 12) + x5) s0).bind fun h2 => (getR h2 9 x0 5).bind fun v3 => (ast h2 0 v3 ((x5 * 12) + x3) s0).bind fun h4 => (c32 (x5 + 1)).bind fun _ => k33 x0 x2 x3 x4 (x5 + 1) h4
theorem tX10_joinLowest_92 {L : Nat} {xs : Nat → Int32} {l : Launch} {res : Hp} (k33 : Nat → Int → Int → Int → Int → Hp → Option (Hp)) (hk33 : ∀ (x0 : Nat) (x2 : Int) (x3 : Int) (x4 : Int) (x5 : Int) (h : Hp), R32 x2 → R32 x3 → R32 x4 → R32 x5 → k33 x0 x2 x3 x4 x5 h = some res → J L xs l RX10 cX10_joinLowest 9 false 1 (QV res) 0 0 33 [(0, vr x0), (2, vi x2), (3, vi x3), (4, vi x4), (5, vi x5)] [] h) (x0 : Nat) (x2 : Int) (x3 : Int) (x4 : Int) (x5 : Int) (s0 : Int) (h : Hp) (rx2 : R32 x2) (rx3 : R32 x3) (rx4 : R32 x4) (rx5 : R32 x5) (rs0 : R32 s0) (H : fX10_joinLowest_92 k33 x0 x2 x3 x4 x5 s0 h = some res) : J L xs l RX10 cX10_joinLowest 9 false 1 (QV res) 0 0 92 [(0, vr x0), (2, vi x2), (3, vi x3), (4, vi x4), (5, vi x5)] [vi s0] h := by
  unfold fX10_joinLowest_92 at H
  refine j_istore (lv' := [(0, vr x0), (2, vi x2), (3, vi x3), (4, vi x4), (5, vi x5), (8, vi s0)]) (pc' := 94) dX10_joinLowest_92 rfl (by decide) [1, 2, 3, 4, 5, 0] rfl ?_
  refine j_aload_n (i := 0) (pc' := 95) dX10_joinLowest_94 rfl rfl 0 rfl ?_
  obtain ⟨v1, e1, H⟩ := bs H
  refine j_getR (pc' := 98) dX10_joinLowest_95 rfl fl_X10_28 e1 (fun r1 => ?_)
  refine j_iload_n (i := 3) (pc' := 99) dX10_joinLowest_98 rfl rfl 2 rfl ?_
  refine j_bipush (pc' := 101) dX10_joinLowest_99 rfl (by decide +kernel) ?_
  refine j_imul (pc' := 102) dX10_joinLowest_101 rfl ?_
  refine j_iload (pc' := 104) dX10_joinLowest_102 rfl 4 rfl ?_
  refine j_iadd (pc' := 105) dX10_joinLowest_104 rfl ?_
  refine j_iload (pc' := 107) dX10_joinLowest_105 rfl 5 rfl ?_
  obtain ⟨h2, e2, H⟩ := bs H
  refine j_iast (pc' := 108) dX10_joinLowest_107 rfl rs0 e2 ?_
  refine j_aload_n (i := 0) (pc' := 109) dX10_joinLowest_108 rfl rfl 0 rfl ?_
  obtain ⟨v3, e3, H⟩ := bs H
  refine j_getR (pc' := 112) dX10_joinLowest_109 rfl fl_X10_28 e3 (fun r3 => ?_)
  refine j_iload (pc' := 114) dX10_joinLowest_112 rfl 4 rfl ?_
  refine j_bipush (pc' := 116) dX10_joinLowest_114 rfl (by decide +kernel) ?_
  refine j_imul (pc' := 117) dX10_joinLowest_116 rfl ?_
  refine j_iload_n (i := 3) (pc' := 118) dX10_joinLowest_117 rfl rfl 2 rfl ?_
  refine j_iadd (pc' := 119) dX10_joinLowest_118 rfl ?_
  refine j_iload (pc' := 121) dX10_joinLowest_119 rfl 5 rfl ?_
  obtain ⟨h4, e4, H⟩ := bs H
  refine j_iast (pc' := 122) dX10_joinLowest_121 rfl rs0 e4 ?_
  obtain ⟨u5, e5, H⟩ := bs H
  have r5 := c32_R e5
  refine j_iinc (k0 := 4) (lv' := [(0, vr x0), (2, vi x2), (3, vi x3), (4, vi x4), (5, vi (x5 + 1)), (8, vi s0)]) (pc' := 125) dX10_joinLowest_122 rfl rfl (by decide) [1, 2, 3, 4, 0, 5] rfl ?_
  refine j_goto (tgt := 33) dX10_joinLowest_125 (by decide) ?_
  refine j_sub (lv' := [(0, vr x0), (2, vi x2), (3, vi x3), (4, vi x4), (5, vi (x5 + 1))]) [0, 1, 2, 3, 4] rfl ?_
  exact hk33 x0 x2 x3 x4 (x5 + 1) h4 rx2 rx3 rx4 r5 H
noncomputable def fX10_joinLowest_33 : Nat → Nat → Int → Int → Int → Int → Hp → Option (Hp)
  | 0, _, _, _, _, _, _ => none
  | n + 1, x0, x2, x3, x4, x5, h => (getI h 9 x0 1).bind fun v1 => if v1 ≤ x5 then (fX10_joinLowest_128 h) else ((getR h 9 x0 5).bind fun v3 => (ald h 0 v3 ((x3 * 12) + x5)).bind fun v4 => (getR h 9 x0 5).bind fun v5 => (ald h 0 v5 ((x4 * 12) + x5)).bind fun v6 => if x2 = 0 then (fX10_joinLowest_92 (fX10_joinLowest_33 n) x0 x2 x3 x4 x5 (min v4 v6) h) else (fX10_joinLowest_92 (fX10_joinLowest_33 n) x0 x2 x3 x4 x5 (max v4 v6) h))
theorem tX10_joinLowest_33 {L : Nat} {xs : Nat → Int32} {l : Launch} {res : Hp} : ∀ (n : Nat) (x0 : Nat) (x2 : Int) (x3 : Int) (x4 : Int) (x5 : Int) (h : Hp), R32 x2 → R32 x3 → R32 x4 → R32 x5 → fX10_joinLowest_33 n x0 x2 x3 x4 x5 h = some res → J L xs l RX10 cX10_joinLowest 9 false 1 (QV res) 0 0 33 [(0, vr x0), (2, vi x2), (3, vi x3), (4, vi x4), (5, vi x5)] [] h := by
  intro n
  induction n with
  | zero => intro x0 x2 x3 x4 x5 h rx2 rx3 rx4 rx5 H; cases H
  | succ n ih =>
    intro x0 x2 x3 x4 x5 h rx2 rx3 rx4 rx5 H
    rw [fX10_joinLowest_33] at H
    refine j_iload (pc' := 35) dX10_joinLowest_33 rfl 4 rfl ?_
    refine j_aload_n (i := 0) (pc' := 36) dX10_joinLowest_35 rfl rfl 0 rfl ?_
    obtain ⟨v1, e1, H⟩ := bs H
    refine j_getI (pc' := 39) dX10_joinLowest_36 rfl fl_X10_15 e1 (fun r1 => ?_)
    refine j_icmp_ge (tgt := 128) (pc' := 42) dX10_joinLowest_39 (by decide) rfl rx5 r1 (fun c2 => ?_) (fun c2 => ?_)
    · rw [if_pos c2] at H
      refine j_sub (lv' := []) [] rfl ?_
      exact tX10_joinLowest_128   h  H
    · rw [if_neg c2] at H
      refine j_aload_n (i := 0) (pc' := 43) dX10_joinLowest_42 rfl rfl 0 rfl ?_
      obtain ⟨v3, e3, H⟩ := bs H
      refine j_getR (pc' := 46) dX10_joinLowest_43 rfl fl_X10_28 e3 (fun r3 => ?_)
      refine j_iload_n (i := 3) (pc' := 47) dX10_joinLowest_46 rfl rfl 2 rfl ?_
      refine j_bipush (pc' := 49) dX10_joinLowest_47 rfl (by decide +kernel) ?_
      refine j_imul (pc' := 50) dX10_joinLowest_49 rfl ?_
      refine j_iload (pc' := 52) dX10_joinLowest_50 rfl 4 rfl ?_
      refine j_iadd (pc' := 53) dX10_joinLowest_52 rfl ?_
      obtain ⟨v4, e4, H⟩ := bs H
      refine j_iald (pc' := 54) dX10_joinLowest_53 rfl e4 (fun r4 => ?_)
      refine j_istore (lv' := [(0, vr x0), (2, vi x2), (3, vi x3), (4, vi x4), (5, vi x5), (6, vi v4)]) (pc' := 56) dX10_joinLowest_54 rfl (by decide) [1, 2, 3, 4, 5, 0] rfl ?_
      refine j_aload_n (i := 0) (pc' := 57) dX10_joinLowest_56 rfl rfl 0 rfl ?_
      obtain ⟨v5, e5, H⟩ := bs H
      refine j_getR (pc' := 60) dX10_joinLowest_57 rfl fl_X10_28 e5 (fun r5 => ?_)
      refine j_iload (pc' := 62) dX10_joinLowest_60 rfl 3 rfl ?_
      refine j_bipush (pc' := 64) dX10_joinLowest_62 rfl (by decide +kernel) ?_
      refine j_imul (pc' := 65) dX10_joinLowest_64 rfl ?_
      refine j_iload (pc' := 67) dX10_joinLowest_65 rfl 4 rfl ?_
      refine j_iadd (pc' := 68) dX10_joinLowest_67 rfl ?_
      obtain ⟨v6, e6, H⟩ := bs H
      refine j_iald (pc' := 69) dX10_joinLowest_68 rfl e6 (fun r6 => ?_)
      refine j_istore (lv' := [(0, vr x0), (2, vi x2), (3, vi x3), (4, vi x4), (5, vi x5), (6, vi v4), (7, vi v6)]) (pc' := 71) dX10_joinLowest_69 rfl (by decide) [1, 2, 3, 4, 5, 6, 0] rfl ?_
      refine j_iload_n (i := 2) (pc' := 72) dX10_joinLowest_71 rfl rfl 1 rfl ?_
      refine j_if_ne (tgt := 85) (pc' := 75) dX10_joinLowest_72 (by decide) rfl rx2 (fun c7 => ?_) (fun c7 => ?_)
      · rw [if_neg c7] at H
        refine j_iload (pc' := 87) dX10_joinLowest_85 rfl 5 rfl ?_
        refine j_iload (pc' := 89) dX10_joinLowest_87 rfl 6 rfl ?_
        refine j_mmax (pc' := 92) dX10_joinLowest_89 rfl ml_X10_69 (by decide) (Nat.le_of_ble_eq_true rfl) r4 r6 ?_
        refine j_sub (lv' := [(0, vr x0), (2, vi x2), (3, vi x3), (4, vi x4), (5, vi x5)]) [0, 1, 2, 3, 4] rfl ?_
        exact tX10_joinLowest_92 _ ih x0 x2 x3 x4 x5 (max v4 v6) h rx2 rx3 rx4 rx5 (R32_max r4 r6) H
      · rw [if_pos c7] at H
        refine j_iload (pc' := 77) dX10_joinLowest_75 rfl 5 rfl ?_
        refine j_iload (pc' := 79) dX10_joinLowest_77 rfl 6 rfl ?_
        refine j_mmin (pc' := 82) dX10_joinLowest_79 rfl ml_X10_63 (by decide) (Nat.le_of_ble_eq_true rfl) r4 r6 ?_
        refine j_goto (tgt := 92) dX10_joinLowest_82 (by decide) ?_
        refine j_sub (lv' := [(0, vr x0), (2, vi x2), (3, vi x3), (4, vi x4), (5, vi x5)]) [0, 1, 2, 3, 4] rfl ?_
        exact tX10_joinLowest_92 _ ih x0 x2 x3 x4 x5 (min v4 v6) h rx2 rx3 rx4 rx5 (R32_min r4 r6) H
noncomputable def fX10_joinLowest (a0 : Nat) (a1 : Int) (a2 : Int) (h : Hp) : Option (Hp) :=
  (getR h 9 a0 2).bind fun v1 => (ald h 0 v1 a1).bind fun v2 => (getR h 9 a0 3).bind fun v3 => (ald h 0 v3 a1).bind fun v4 => (getI h 9 a0 6).bind fun v5 => (putV h 9 a0 6 (vi (bAnd v5 (bXor (bShl 1 v4) (-1))))).bind fun h6 => fX10_joinLowest_33 FU a0 a2 v2 v4 0 h6
theorem tX10_joinLowest {L : Nat} {xs : Nat → Int32} {l : Launch} {res : Hp} (a0 : Nat) (a1 : Int) (a2 : Int) (h : Hp) (ra1 : R32 a1) (ra2 : R32 a2) (H : fX10_joinLowest a0 a1 a2 h = some res) : J L xs l RX10 cX10_joinLowest 9 false 1 (QV res) 0 0 0 (alv 0 [vr a0, vi a1, vi a2]) [] h := by
  unfold fX10_joinLowest at H
  show J L xs l RX10 cX10_joinLowest 9 false 1 (QV res) 0 0 0 [(0, vr a0), (1, vi a1), (2, vi a2)] [] h
  refine j_aload_n (i := 0) (pc' := 1) dX10_joinLowest_0 rfl rfl 0 rfl ?_
  obtain ⟨v1, e1, H⟩ := bs H
  refine j_getR (pc' := 4) dX10_joinLowest_1 rfl fl_X10_18 e1 (fun r1 => ?_)
  refine j_iload_n (i := 1) (pc' := 5) dX10_joinLowest_4 rfl rfl 1 rfl ?_
  obtain ⟨v2, e2, H⟩ := bs H
  refine j_iald (pc' := 6) dX10_joinLowest_5 rfl e2 (fun r2 => ?_)
  refine j_istore_n (i := 3) (lv' := [(0, vr a0), (1, vi a1), (2, vi a2), (3, vi v2)]) (pc' := 7) dX10_joinLowest_6 rfl rfl (by decide) [1, 2, 3, 0] rfl ?_
  refine j_aload_n (i := 0) (pc' := 8) dX10_joinLowest_7 rfl rfl 0 rfl ?_
  obtain ⟨v3, e3, H⟩ := bs H
  refine j_getR (pc' := 11) dX10_joinLowest_8 rfl fl_X10_22 e3 (fun r3 => ?_)
  refine j_iload_n (i := 1) (pc' := 12) dX10_joinLowest_11 rfl rfl 1 rfl ?_
  obtain ⟨v4, e4, H⟩ := bs H
  refine j_iald (pc' := 13) dX10_joinLowest_12 rfl e4 (fun r4 => ?_)
  refine j_istore (lv' := [(0, vr a0), (1, vi a1), (2, vi a2), (3, vi v2), (4, vi v4)]) (pc' := 15) dX10_joinLowest_13 rfl (by decide) [1, 2, 3, 4, 0] rfl ?_
  refine j_aload_n (i := 0) (pc' := 16) dX10_joinLowest_15 rfl rfl 0 rfl ?_
  refine j_dup (pc' := 17) dX10_joinLowest_16 rfl rfl ?_
  obtain ⟨v5, e5, H⟩ := bs H
  refine j_getI (pc' := 20) dX10_joinLowest_17 rfl fl_X10_31 e5 (fun r5 => ?_)
  refine j_iconst (pc' := 21) dX10_joinLowest_20 rfl ?_
  refine j_iload (pc' := 23) dX10_joinLowest_21 rfl 4 rfl ?_
  refine j_ishl (pc' := 24) dX10_joinLowest_23 rfl ?_
  refine j_iconst (pc' := 25) dX10_joinLowest_24 rfl ?_
  refine j_ixor (pc' := 26) dX10_joinLowest_25 rfl ?_
  refine j_iand (pc' := 27) dX10_joinLowest_26 rfl ?_
  obtain ⟨h6, e6, H⟩ := bs H
  refine j_putV (pc' := 30) dX10_joinLowest_27 rfl fp_X10_31 tI (R32_to _) e6 ?_
  refine j_iconst (pc' := 31) dX10_joinLowest_30 rfl ?_
  refine j_istore (lv' := [(0, vr a0), (1, vi a1), (2, vi a2), (3, vi v2), (4, vi v4), (5, vi 0)]) (pc' := 33) dX10_joinLowest_31 rfl (by decide) [1, 2, 3, 4, 5, 0] rfl ?_
  refine j_sub (lv' := [(0, vr a0), (2, vi a2), (3, vi v2), (4, vi v4), (5, vi 0)]) [0, 2, 3, 4, 5] rfl ?_
  exact tX10_joinLowest_33   FU a0 a2 v2 v4 0 h6 ra2 r2 r4 ⟨by decide, by decide⟩ H
-- X10_grow
noncomputable def fX10_grow_77  (h : Hp) : Option (Hp) :=
  some h
theorem tX10_grow_77 {L : Nat} {xs : Nat → Int32} {l : Launch} {res : Hp}  (h : Hp)  (H : fX10_grow_77  h = some res) : J L xs l RX10 cX10_grow 4 false 3 (QV res) 0 0 77 [] [] h := by
  unfold fX10_grow_77 at H
  obtain rfl := Option.some.inj H
  exact j_vret dX10_grow_77 ⟨rfl, rfl⟩
noncomputable def fX10_grow_50 : Nat → Nat → Int → Int → Hp → Option (Hp)
  | 0, _, _, _, _ => none
  | n + 1, x0, x2, x3, h => (getI h 9 x0 1).bind fun v1 => (c32 (v1 - 1)).bind fun _ => if (v1 - 1) ≤ x3 then (fX10_grow_77 h) else ((cob h 9 x0).bind fun _ => (fX10_findLowest x0 x3 h).bind fun h5 => (cob h5 9 x0).bind fun _ => (fX10_joinLowest x0 x3 x2 h5).bind fun h7 => (c32 (x3 + 1)).bind fun _ => fX10_grow_50 n x0 x2 (x3 + 1) h7)
theorem tX10_grow_50 {L : Nat} {xs : Nat → Int32} {l : Launch} {res : Hp} : ∀ (n : Nat) (x0 : Nat) (x2 : Int) (x3 : Int) (h : Hp), R32 x2 → R32 x3 → fX10_grow_50 n x0 x2 x3 h = some res → J L xs l RX10 cX10_grow 4 false 3 (QV res) 0 0 50 [(0, vr x0), (2, vi x2), (3, vi x3)] [] h := by
  intro n
  induction n with
  | zero => intro x0 x2 x3 h rx2 rx3 H; cases H
  | succ n ih =>
    intro x0 x2 x3 h rx2 rx3 H
    rw [fX10_grow_50] at H
    refine j_iload_n (i := 3) (pc' := 51) dX10_grow_50 rfl rfl 2 rfl ?_
    refine j_aload_n (i := 0) (pc' := 52) dX10_grow_51 rfl rfl 0 rfl ?_
    obtain ⟨v1, e1, H⟩ := bs H
    refine j_getI (pc' := 55) dX10_grow_52 rfl fl_X10_15 e1 (fun r1 => ?_)
    refine j_iconst (pc' := 56) dX10_grow_55 rfl ?_
    refine j_isub (pc' := 57) dX10_grow_56 rfl ?_
    obtain ⟨u2, e2, H⟩ := bs H
    have r2 := c32_R e2
    refine j_icmp_ge (tgt := 77) (pc' := 60) dX10_grow_57 (by decide) rfl rx3 r2 (fun c3 => ?_) (fun c3 => ?_)
    · rw [if_pos c3] at H
      refine j_sub (lv' := []) [] rfl ?_
      exact tX10_grow_77   h  H
    · rw [if_neg c3] at H
      refine j_aload_n (i := 0) (pc' := 61) dX10_grow_60 rfl rfl 0 rfl ?_
      refine j_iload_n (i := 3) (pc' := 62) dX10_grow_61 rfl rfl 2 rfl ?_
      obtain ⟨u4, e4, H⟩ := bs H
      obtain ⟨h5, e5, H⟩ := bs H
      refine j_cVv (y := yX10_findLowest) (dY := 2) (vs := [vi x3]) (st := []) (q := x0) (pc' := 65) dX10_grow_62 rfl ymX10_findLowest yvX10_findLowest ml_X10_46 (by decide) rfl (Nat.le_of_ble_eq_true rfl) (Nat.le_of_ble_eq_true rfl) e4 (tX10_findLowest x0 x3 h rx3 e5) (fun z5 => ?_)
      refine j_aload_n (i := 0) (pc' := 66) dX10_grow_65 rfl rfl 0 rfl ?_
      refine j_iload_n (i := 3) (pc' := 67) dX10_grow_66 rfl rfl 2 rfl ?_
      refine j_iload_n (i := 2) (pc' := 68) dX10_grow_67 rfl rfl 1 rfl ?_
      obtain ⟨u6, e6, H⟩ := bs H
      obtain ⟨h7, e7, H⟩ := bs H
      refine j_cVv (y := yX10_joinLowest) (dY := 1) (vs := [vi x3, vi x2]) (st := []) (q := x0) (pc' := 71) dX10_grow_68 rfl ymX10_joinLowest yvX10_joinLowest ml_X10_50 (by decide) rfl (Nat.le_of_ble_eq_true rfl) (Nat.le_of_ble_eq_true rfl) e6 (tX10_joinLowest x0 x3 x2 h5 rx3 rx2 e7) (fun z7 => ?_)
      obtain ⟨u8, e8, H⟩ := bs H
      have r8 := c32_R e8
      refine j_iinc (k0 := 2) (lv' := [(0, vr x0), (2, vi x2), (3, vi (x3 + 1))]) (pc' := 74) dX10_grow_71 rfl rfl (by decide) [1, 2, 0] rfl ?_
      refine j_goto (tgt := 50) dX10_grow_74 (by decide) ?_
      exact ih x0 x2 (x3 + 1) h7 rx2 r8 H
noncomputable def fX10_grow (a0 : Nat) (a1 : Nat) (a2 : Int) (h : Hp) : Option (Hp) :=
  (getI h 6 a1 0).bind fun v1 => (putV h 9 a0 1 (vi v1)).bind fun h2 => (getR h2 6 a1 2).bind fun v3 => (getR h2 9 a0 5).bind fun v4 => (getR h2 9 a0 5).bind fun v5 => (aln h2 0 v5).bind fun v6 => (cpyI h2 v3 0 v4 0 v6).bind fun h7 => (getI h7 9 a0 1).bind fun v8 => (c32 ((bShl 1 v8) - 1)).bind fun _ => (putV h7 9 a0 6 (vi ((bShl 1 v8) - 1))).bind fun h10 => (getI h10 9 a0 1).bind fun v11 => (c32 (v11 - 1)).bind fun _ => (putV h10 9 a0 0 (vi (v11 - 1))).bind fun h13 => fX10_grow_50 FU a0 a2 0 h13
theorem tX10_grow {L : Nat} {xs : Nat → Int32} {l : Launch} {res : Hp} (a0 : Nat) (a1 : Nat) (a2 : Int) (h : Hp) (ra2 : R32 a2) (H : fX10_grow a0 a1 a2 h = some res) : J L xs l RX10 cX10_grow 4 false 3 (QV res) 0 0 0 (alv 0 [vr a0, vr a1, vi a2]) [] h := by
  unfold fX10_grow at H
  show J L xs l RX10 cX10_grow 4 false 3 (QV res) 0 0 0 [(0, vr a0), (1, vr a1), (2, vi a2)] [] h
  refine j_aload_n (i := 0) (pc' := 1) dX10_grow_0 rfl rfl 0 rfl ?_
  refine j_aload_n (i := 1) (pc' := 2) dX10_grow_1 rfl rfl 1 rfl ?_
  obtain ⟨v1, e1, H⟩ := bs H
  refine j_getI (pc' := 5) dX10_grow_2 rfl fl_X10_34 e1 (fun r1 => ?_)
  obtain ⟨h2, e2, H⟩ := bs H
  refine j_putV (pc' := 8) dX10_grow_5 rfl fp_X10_15 tI r1 e2 ?_
  refine j_aload_n (i := 1) (pc' := 9) dX10_grow_8 rfl rfl 1 rfl ?_
  obtain ⟨v3, e3, H⟩ := bs H
  refine j_getR (pc' := 12) dX10_grow_9 rfl fl_X10_37 e3 (fun r3 => ?_)
  refine j_iconst (pc' := 13) dX10_grow_12 rfl ?_
  refine j_aload_n (i := 0) (pc' := 14) dX10_grow_13 rfl rfl 0 rfl ?_
  obtain ⟨v4, e4, H⟩ := bs H
  refine j_getR (pc' := 17) dX10_grow_14 rfl fl_X10_28 e4 (fun r4 => ?_)
  refine j_iconst (pc' := 18) dX10_grow_17 rfl ?_
  refine j_aload_n (i := 0) (pc' := 19) dX10_grow_18 rfl rfl 0 rfl ?_
  obtain ⟨v5, e5, H⟩ := bs H
  refine j_getR (pc' := 22) dX10_grow_19 rfl fl_X10_28 e5 (fun r5 => ?_)
  obtain ⟨v6, e6, H⟩ := bs H
  refine j_alen (kd := 0) (pc' := 23) dX10_grow_22 rfl e6 (fun r6 => ?_)
  obtain ⟨h7, e7, H⟩ := bs H
  refine j_cpy (pc' := 26) dX10_grow_23 rfl ml_X10_40 sy_1 sy_2 sy_3 (by decide) (Nat.le_of_ble_eq_true rfl) e7 ?_
  refine j_aload_n (i := 0) (pc' := 27) dX10_grow_26 rfl rfl 0 rfl ?_
  refine j_iconst (pc' := 28) dX10_grow_27 rfl ?_
  refine j_aload_n (i := 0) (pc' := 29) dX10_grow_28 rfl rfl 0 rfl ?_
  obtain ⟨v8, e8, H⟩ := bs H
  refine j_getI (pc' := 32) dX10_grow_29 rfl fl_X10_15 e8 (fun r8 => ?_)
  refine j_ishl (pc' := 33) dX10_grow_32 rfl ?_
  refine j_iconst (pc' := 34) dX10_grow_33 rfl ?_
  refine j_isub (pc' := 35) dX10_grow_34 rfl ?_
  obtain ⟨u9, e9, H⟩ := bs H
  have r9 := c32_R e9
  obtain ⟨h10, e10, H⟩ := bs H
  refine j_putV (pc' := 38) dX10_grow_35 rfl fp_X10_31 tI r9 e10 ?_
  refine j_aload_n (i := 0) (pc' := 39) dX10_grow_38 rfl rfl 0 rfl ?_
  refine j_aload_n (i := 0) (pc' := 40) dX10_grow_39 rfl rfl 0 rfl ?_
  obtain ⟨v11, e11, H⟩ := bs H
  refine j_getI (pc' := 43) dX10_grow_40 rfl fl_X10_15 e11 (fun r11 => ?_)
  refine j_iconst (pc' := 44) dX10_grow_43 rfl ?_
  refine j_isub (pc' := 45) dX10_grow_44 rfl ?_
  obtain ⟨u12, e12, H⟩ := bs H
  have r12 := c32_R e12
  obtain ⟨h13, e13, H⟩ := bs H
  refine j_putV (pc' := 48) dX10_grow_45 rfl fp_X10_9 tI r12 e13 ?_
  refine j_iconst (pc' := 49) dX10_grow_48 rfl ?_
  refine j_istore_n (i := 3) (lv' := [(0, vr a0), (1, vr a1), (2, vi a2), (3, vi 0)]) (pc' := 50) dX10_grow_49 rfl rfl (by decide) [1, 2, 3, 0] rfl ?_
  refine j_sub (lv' := [(0, vr a0), (2, vi a2), (3, vi 0)]) [0, 2, 3] rfl ?_
  exact tX10_grow_50   FU a0 a2 0 h13 ra2 ⟨by decide, by decide⟩ H
-- X10_heightOf
noncomputable def fX10_heightOf_91  (h : Hp) : Option (Int × Hp) :=
  some (0, h)
theorem tX10_heightOf_91 {L : Nat} {xs : Nat → Int32} {l : Launch} {res : Int × Hp}  (h : Hp)  (H : fX10_heightOf_91  h = some res) : J L xs l RX10 cX10_heightOf 6 false 1 (QI res) 0 0 91 [] [] h := by
  unfold fX10_heightOf_91 at H
  refine j_iconst (pc' := 92) dX10_heightOf_91 rfl ?_
  obtain rfl := Option.some.inj H
  exact j_iret dX10_heightOf_92 ⟨by decide, by decide⟩ ⟨rfl, rfl⟩
noncomputable def fX10_heightOf_77 (x0 : Nat) (x5 : Int) (h : Hp) : Option (Int × Hp) :=
  (getR h 9 x0 4).bind fun v1 => (ald h 0 v1 x5).bind fun v2 => some (v2, h)
theorem tX10_heightOf_77 {L : Nat} {xs : Nat → Int32} {l : Launch} {res : Int × Hp} (x0 : Nat) (x5 : Int) (h : Hp) (rx5 : R32 x5) (H : fX10_heightOf_77 x0 x5 h = some res) : J L xs l RX10 cX10_heightOf 6 false 1 (QI res) 0 0 77 [(0, vr x0), (5, vi x5)] [] h := by
  unfold fX10_heightOf_77 at H
  refine j_aload_n (i := 0) (pc' := 78) dX10_heightOf_77 rfl rfl 0 rfl ?_
  obtain ⟨v1, e1, H⟩ := bs H
  refine j_getR (pc' := 81) dX10_heightOf_78 rfl fl_X10_25 e1 (fun r1 => ?_)
  refine j_iload (pc' := 83) dX10_heightOf_81 rfl 1 rfl ?_
  obtain ⟨v2, e2, H⟩ := bs H
  refine j_iald (pc' := 84) dX10_heightOf_83 rfl e2 (fun r2 => ?_)
  obtain rfl := Option.some.inj H
  exact j_iret dX10_heightOf_84 r2 ⟨rfl, rfl⟩
noncomputable def fX10_heightOf_69 (k8 : Nat → Int → Int → Int → Int → Int → Hp → Option (Int × Hp)) (x0 : Nat) (x1 : Int) (x2 : Int) (x3 : Int) (x5 : Int) (s0 : Int) (h : Hp) : Option (Int × Hp) :=
  if x3 = s0 then (fX10_heightOf_77 x0 x5 h) else ((c32 (x5 + 1)).bind fun _ => k8 x0 x1 x2 x3 s0 (x5 + 1) h)
theorem tX10_heightOf_69 {L : Nat} {xs : Nat → Int32} {l : Launch} {res : Int × Hp} (k8 : Nat → Int → Int → Int → Int → Int → Hp → Option (Int × Hp)) (hk8 : ∀ (x0 : Nat) (x1 : Int) (x2 : Int) (x3 : Int) (x4 : Int) (x5 : Int) (h : Hp), R32 x1 → R32 x2 → R32 x3 → R32 x4 → R32 x5 → k8 x0 x1 x2 x3 x4 x5 h = some res → J L xs l RX10 cX10_heightOf 6 false 1 (QI res) 0 0 8 [(0, vr x0), (1, vi x1), (2, vi x2), (3, vi x3), (4, vi x4), (5, vi x5)] [] h) (x0 : Nat) (x1 : Int) (x2 : Int) (x3 : Int) (x5 : Int) (s0 : Int) (h : Hp) (rx1 : R32 x1) (rx2 : R32 x2) (rx3 : R32 x3) (rx5 : R32 x5) (rs0 : R32 s0) (H : fX10_heightOf_69 k8 x0 x1 x2 x3 x5 s0 h = some res) : J L xs l RX10 cX10_heightOf 6 false 1 (QI res) 0 0 69 [(0, vr x0), (1, vi x1), (2, vi x2), (3, vi x3), (5, vi x5)] [vi s0] h := by
  unfold fX10_heightOf_69 at H
  refine j_istore (lv' := [(0, vr x0), (1, vi x1), (2, vi x2), (3, vi x3), (4, vi s0), (5, vi x5)]) (pc' := 71) dX10_heightOf_69 rfl (by decide) [1, 2, 3, 4, 0, 5] rfl ?_
  refine j_iload_n (i := 3) (pc' := 72) dX10_heightOf_71 rfl rfl 3 rfl ?_
  refine j_iload (pc' := 74) dX10_heightOf_72 rfl 4 rfl ?_
  refine j_icmp_ne (tgt := 85) (pc' := 77) dX10_heightOf_74 (by decide) rfl rx3 rs0 (fun c1 => ?_) (fun c1 => ?_)
  · rw [if_neg c1] at H
    obtain ⟨u2, e2, H⟩ := bs H
    have r2 := c32_R e2
    refine j_iinc (k0 := 5) (lv' := [(0, vr x0), (1, vi x1), (2, vi x2), (3, vi x3), (4, vi s0), (5, vi (x5 + 1))]) (pc' := 88) dX10_heightOf_85 rfl rfl (by decide) [1, 2, 3, 4, 5, 0] rfl ?_
    refine j_goto (tgt := 8) dX10_heightOf_88 (by decide) ?_
    exact hk8 x0 x1 x2 x3 s0 (x5 + 1) h rx1 rx2 rx3 rs0 r2 H
  · rw [if_pos c1] at H
    refine j_sub (lv' := [(0, vr x0), (5, vi x5)]) [0, 5] rfl ?_
    exact tX10_heightOf_77   x0 x5 h rx5 H
noncomputable def fX10_heightOf_44 (k8 : Nat → Int → Int → Int → Int → Int → Hp → Option (Int × Hp)) (x0 : Nat) (x1 : Int) (x2 : Int) (x4 : Int) (x5 : Int) (s0 : Int) (h : Hp) : Option (Int × Hp) :=
  (getR h 9 x0 3).bind fun v1 => (ald h 0 v1 x5).bind fun v2 => if x4 = v2 then ((getR h 9 x0 2).bind fun v4 => (ald h 0 v4 x5).bind fun v5 => fX10_heightOf_69 k8 x0 x1 x2 s0 x5 v5 h) else (fX10_heightOf_69 k8 x0 x1 x2 s0 x5 x4 h)
theorem tX10_heightOf_44 {L : Nat} {xs : Nat → Int32} {l : Launch} {res : Int × Hp} (k8 : Nat → Int → Int → Int → Int → Int → Hp → Option (Int × Hp)) (hk8 : ∀ (x0 : Nat) (x1 : Int) (x2 : Int) (x3 : Int) (x4 : Int) (x5 : Int) (h : Hp), R32 x1 → R32 x2 → R32 x3 → R32 x4 → R32 x5 → k8 x0 x1 x2 x3 x4 x5 h = some res → J L xs l RX10 cX10_heightOf 6 false 1 (QI res) 0 0 8 [(0, vr x0), (1, vi x1), (2, vi x2), (3, vi x3), (4, vi x4), (5, vi x5)] [] h) (x0 : Nat) (x1 : Int) (x2 : Int) (x4 : Int) (x5 : Int) (s0 : Int) (h : Hp) (rx1 : R32 x1) (rx2 : R32 x2) (rx4 : R32 x4) (rx5 : R32 x5) (rs0 : R32 s0) (H : fX10_heightOf_44 k8 x0 x1 x2 x4 x5 s0 h = some res) : J L xs l RX10 cX10_heightOf 6 false 1 (QI res) 0 0 44 [(0, vr x0), (1, vi x1), (2, vi x2), (4, vi x4), (5, vi x5)] [vi s0] h := by
  unfold fX10_heightOf_44 at H
  refine j_istore_n (i := 3) (lv' := [(0, vr x0), (1, vi x1), (2, vi x2), (3, vi s0), (4, vi x4), (5, vi x5)]) (pc' := 45) dX10_heightOf_44 rfl rfl (by decide) [1, 2, 3, 0, 4, 5] rfl ?_
  refine j_iload (pc' := 47) dX10_heightOf_45 rfl 4 rfl ?_
  refine j_aload_n (i := 0) (pc' := 48) dX10_heightOf_47 rfl rfl 0 rfl ?_
  obtain ⟨v1, e1, H⟩ := bs H
  refine j_getR (pc' := 51) dX10_heightOf_48 rfl fl_X10_22 e1 (fun r1 => ?_)
  refine j_iload (pc' := 53) dX10_heightOf_51 rfl 5 rfl ?_
  obtain ⟨v2, e2, H⟩ := bs H
  refine j_iald (pc' := 54) dX10_heightOf_53 rfl e2 (fun r2 => ?_)
  refine j_icmp_ne (tgt := 67) (pc' := 57) dX10_heightOf_54 (by decide) rfl rx4 r2 (fun c3 => ?_) (fun c3 => ?_)
  · rw [if_neg c3] at H
    refine j_iload (pc' := 69) dX10_heightOf_67 rfl 4 rfl ?_
    refine j_sub (lv' := [(0, vr x0), (1, vi x1), (2, vi x2), (3, vi s0), (5, vi x5)]) [0, 1, 2, 3, 5] rfl ?_
    exact tX10_heightOf_69 _ hk8 x0 x1 x2 s0 x5 x4 h rx1 rx2 rs0 rx5 rx4 H
  · rw [if_pos c3] at H
    refine j_aload_n (i := 0) (pc' := 58) dX10_heightOf_57 rfl rfl 0 rfl ?_
    obtain ⟨v4, e4, H⟩ := bs H
    refine j_getR (pc' := 61) dX10_heightOf_58 rfl fl_X10_18 e4 (fun r4 => ?_)
    refine j_iload (pc' := 63) dX10_heightOf_61 rfl 5 rfl ?_
    obtain ⟨v5, e5, H⟩ := bs H
    refine j_iald (pc' := 64) dX10_heightOf_63 rfl e5 (fun r5 => ?_)
    refine j_goto (tgt := 69) dX10_heightOf_64 (by decide) ?_
    refine j_sub (lv' := [(0, vr x0), (1, vi x1), (2, vi x2), (3, vi s0), (5, vi x5)]) [0, 1, 2, 3, 5] rfl ?_
    exact tX10_heightOf_69 _ hk8 x0 x1 x2 s0 x5 v5 h rx1 rx2 rs0 rx5 r5 H
noncomputable def fX10_heightOf_8 : Nat → Nat → Int → Int → Int → Int → Int → Hp → Option (Int × Hp)
  | 0, _, _, _, _, _, _, _ => none
  | n + 1, x0, x1, x2, x3, x4, x5, h => (getI h 9 x0 0).bind fun v1 => if v1 ≤ x5 then (fX10_heightOf_91 h) else (if x1 = x2 then (fX10_heightOf_91 h) else ((getR h 9 x0 3).bind fun v4 => (ald h 0 v4 x5).bind fun v5 => if x3 = v5 then ((getR h 9 x0 2).bind fun v7 => (ald h 0 v7 x5).bind fun v8 => fX10_heightOf_44 (fX10_heightOf_8 n) x0 x1 x2 x4 x5 v8 h) else (fX10_heightOf_44 (fX10_heightOf_8 n) x0 x1 x2 x4 x5 x3 h)))
theorem tX10_heightOf_8 {L : Nat} {xs : Nat → Int32} {l : Launch} {res : Int × Hp} : ∀ (n : Nat) (x0 : Nat) (x1 : Int) (x2 : Int) (x3 : Int) (x4 : Int) (x5 : Int) (h : Hp), R32 x1 → R32 x2 → R32 x3 → R32 x4 → R32 x5 → fX10_heightOf_8 n x0 x1 x2 x3 x4 x5 h = some res → J L xs l RX10 cX10_heightOf 6 false 1 (QI res) 0 0 8 [(0, vr x0), (1, vi x1), (2, vi x2), (3, vi x3), (4, vi x4), (5, vi x5)] [] h := by
  intro n
  induction n with
  | zero => intro x0 x1 x2 x3 x4 x5 h rx1 rx2 rx3 rx4 rx5 H; cases H
  | succ n ih =>
    intro x0 x1 x2 x3 x4 x5 h rx1 rx2 rx3 rx4 rx5 H
    rw [fX10_heightOf_8] at H
    refine j_iload (pc' := 10) dX10_heightOf_8 rfl 5 rfl ?_
    refine j_aload_n (i := 0) (pc' := 11) dX10_heightOf_10 rfl rfl 0 rfl ?_
    obtain ⟨v1, e1, H⟩ := bs H
    refine j_getI (pc' := 14) dX10_heightOf_11 rfl fl_X10_9 e1 (fun r1 => ?_)
    refine j_icmp_ge (tgt := 91) (pc' := 17) dX10_heightOf_14 (by decide) rfl rx5 r1 (fun c2 => ?_) (fun c2 => ?_)
    · rw [if_pos c2] at H
      refine j_sub (lv' := []) [] rfl ?_
      exact tX10_heightOf_91   h  H
    · rw [if_neg c2] at H
      refine j_iload_n (i := 1) (pc' := 18) dX10_heightOf_17 rfl rfl 1 rfl ?_
      refine j_iload_n (i := 2) (pc' := 19) dX10_heightOf_18 rfl rfl 2 rfl ?_
      refine j_icmp_eq (tgt := 91) (pc' := 22) dX10_heightOf_19 (by decide) rfl rx1 rx2 (fun c3 => ?_) (fun c3 => ?_)
      · rw [if_pos c3] at H
        refine j_sub (lv' := []) [] rfl ?_
        exact tX10_heightOf_91   h  H
      · rw [if_neg c3] at H
        refine j_iload_n (i := 3) (pc' := 23) dX10_heightOf_22 rfl rfl 3 rfl ?_
        refine j_aload_n (i := 0) (pc' := 24) dX10_heightOf_23 rfl rfl 0 rfl ?_
        obtain ⟨v4, e4, H⟩ := bs H
        refine j_getR (pc' := 27) dX10_heightOf_24 rfl fl_X10_22 e4 (fun r4 => ?_)
        refine j_iload (pc' := 29) dX10_heightOf_27 rfl 5 rfl ?_
        obtain ⟨v5, e5, H⟩ := bs H
        refine j_iald (pc' := 30) dX10_heightOf_29 rfl e5 (fun r5 => ?_)
        refine j_icmp_ne (tgt := 43) (pc' := 33) dX10_heightOf_30 (by decide) rfl rx3 r5 (fun c6 => ?_) (fun c6 => ?_)
        · rw [if_neg c6] at H
          refine j_iload_n (i := 3) (pc' := 44) dX10_heightOf_43 rfl rfl 3 rfl ?_
          refine j_sub (lv' := [(0, vr x0), (1, vi x1), (2, vi x2), (4, vi x4), (5, vi x5)]) [0, 1, 2, 4, 5] rfl ?_
          exact tX10_heightOf_44 _ ih x0 x1 x2 x4 x5 x3 h rx1 rx2 rx4 rx5 rx3 H
        · rw [if_pos c6] at H
          refine j_aload_n (i := 0) (pc' := 34) dX10_heightOf_33 rfl rfl 0 rfl ?_
          obtain ⟨v7, e7, H⟩ := bs H
          refine j_getR (pc' := 37) dX10_heightOf_34 rfl fl_X10_18 e7 (fun r7 => ?_)
          refine j_iload (pc' := 39) dX10_heightOf_37 rfl 5 rfl ?_
          obtain ⟨v8, e8, H⟩ := bs H
          refine j_iald (pc' := 40) dX10_heightOf_39 rfl e8 (fun r8 => ?_)
          refine j_goto (tgt := 44) dX10_heightOf_40 (by decide) ?_
          refine j_sub (lv' := [(0, vr x0), (1, vi x1), (2, vi x2), (4, vi x4), (5, vi x5)]) [0, 1, 2, 4, 5] rfl ?_
          exact tX10_heightOf_44 _ ih x0 x1 x2 x4 x5 v8 h rx1 rx2 rx4 rx5 r8 H
noncomputable def fX10_heightOf (a0 : Nat) (a1 : Int) (a2 : Int) (h : Hp) : Option (Int × Hp) :=
  fX10_heightOf_8 FU a0 a1 a2 a1 a2 0 h
theorem tX10_heightOf {L : Nat} {xs : Nat → Int32} {l : Launch} {res : Int × Hp} (a0 : Nat) (a1 : Int) (a2 : Int) (h : Hp) (ra1 : R32 a1) (ra2 : R32 a2) (H : fX10_heightOf a0 a1 a2 h = some res) : J L xs l RX10 cX10_heightOf 6 false 1 (QI res) 0 0 0 (alv 0 [vr a0, vi a1, vi a2]) [] h := by
  unfold fX10_heightOf at H
  show J L xs l RX10 cX10_heightOf 6 false 1 (QI res) 0 0 0 [(0, vr a0), (1, vi a1), (2, vi a2)] [] h
  refine j_iload_n (i := 1) (pc' := 1) dX10_heightOf_0 rfl rfl 1 rfl ?_
  refine j_istore_n (i := 3) (lv' := [(0, vr a0), (1, vi a1), (2, vi a2), (3, vi a1)]) (pc' := 2) dX10_heightOf_1 rfl rfl (by decide) [1, 2, 3, 0] rfl ?_
  refine j_iload_n (i := 2) (pc' := 3) dX10_heightOf_2 rfl rfl 2 rfl ?_
  refine j_istore (lv' := [(0, vr a0), (1, vi a1), (2, vi a2), (3, vi a1), (4, vi a2)]) (pc' := 5) dX10_heightOf_3 rfl (by decide) [1, 2, 3, 4, 0] rfl ?_
  refine j_iconst (pc' := 6) dX10_heightOf_5 rfl ?_
  refine j_istore (lv' := [(0, vr a0), (1, vi a1), (2, vi a2), (3, vi a1), (4, vi a2), (5, vi 0)]) (pc' := 8) dX10_heightOf_6 rfl (by decide) [1, 2, 3, 4, 5, 0] rfl ?_
  exact tX10_heightOf_8   FU a0 a1 a2 a1 a2 0 h ra1 ra2 ra1 ra2 ⟨by decide, by decide⟩ H
-- X10_partBelow
noncomputable def fX10_partBelow_96 (x2 : Nat) (h : Hp) : Option (Hp) :=
  (cob h 5 x2).bind fun _ => (fX6_renumber x2 h).bind fun h2 => some h2
theorem tX10_partBelow_96 {L : Nat} {xs : Nat → Int32} {l : Launch} {res : Hp} (x2 : Nat) (h : Hp)  (H : fX10_partBelow_96 x2 h = some res) : J L xs l RX10 cX10_partBelow 5 false 3 (QV res) 0 0 96 [(2, vr x2)] [] h := by
  unfold fX10_partBelow_96 at H
  refine j_aload_n (i := 2) (pc' := 97) dX10_partBelow_96 rfl rfl 0 rfl ?_
  obtain ⟨u1, e1, H⟩ := bs H
  obtain ⟨h2, e2, H⟩ := bs H
  refine j_cVv (y := yX6_renumber) (dY := 2) (vs := []) (st := []) (q := x2) (pc' := 100) dX10_partBelow_97 rfl ymX6_renumber yvX6_renumber ml_X10_78 (by decide) rfl (Nat.le_of_ble_eq_true rfl) (Nat.le_of_ble_eq_true rfl) e1 (tX6_renumber x2 h e2) (fun z2 => ?_)
  obtain rfl := Option.some.inj H
  exact j_vret dX10_partBelow_100 ⟨rfl, rfl⟩
noncomputable def fX10_partBelow_90 (k25 : Nat → Int → Nat → Int → Hp → Option (Hp)) (x0 : Nat) (x1 : Int) (x2 : Nat) (x3 : Int) (h : Hp) : Option (Hp) :=
  (c32 (x3 + 1)).bind fun _ => k25 x0 x1 x2 (x3 + 1) h
theorem tX10_partBelow_90 {L : Nat} {xs : Nat → Int32} {l : Launch} {res : Hp} (k25 : Nat → Int → Nat → Int → Hp → Option (Hp)) (hk25 : ∀ (x0 : Nat) (x1 : Int) (x2 : Nat) (x3 : Int) (h : Hp), R32 x1 → R32 x3 → k25 x0 x1 x2 x3 h = some res → J L xs l RX10 cX10_partBelow 5 false 3 (QV res) 0 0 25 [(0, vr x0), (1, vi x1), (2, vr x2), (3, vi x3)] [] h) (x0 : Nat) (x1 : Int) (x2 : Nat) (x3 : Int) (h : Hp) (rx1 : R32 x1) (rx3 : R32 x3) (H : fX10_partBelow_90 k25 x0 x1 x2 x3 h = some res) : J L xs l RX10 cX10_partBelow 5 false 3 (QV res) 0 0 90 [(0, vr x0), (1, vi x1), (2, vr x2), (3, vi x3)] [] h := by
  unfold fX10_partBelow_90 at H
  obtain ⟨u1, e1, H⟩ := bs H
  have r1 := c32_R e1
  refine j_iinc (k0 := 3) (lv' := [(0, vr x0), (1, vi x1), (2, vr x2), (3, vi (x3 + 1))]) (pc' := 93) dX10_partBelow_90 rfl rfl (by decide) [1, 2, 3, 0] rfl ?_
  refine j_goto (tgt := 25) dX10_partBelow_93 (by decide) ?_
  exact hk25 x0 x1 x2 (x3 + 1) h rx1 r1 H
noncomputable def fX10_partBelow_84 (k25 : Nat → Int → Nat → Int → Hp → Option (Hp)) (k46 : Nat → Int → Nat → Int → Int → Hp → Option (Hp)) (x0 : Nat) (x1 : Int) (x2 : Nat) (x3 : Int) (x4 : Int) (h : Hp) : Option (Hp) :=
  (c32 (x4 + 1)).bind fun _ => k46 x0 x1 x2 x3 (x4 + 1) h
theorem tX10_partBelow_84 {L : Nat} {xs : Nat → Int32} {l : Launch} {res : Hp} (k25 : Nat → Int → Nat → Int → Hp → Option (Hp)) (k46 : Nat → Int → Nat → Int → Int → Hp → Option (Hp)) (hk25 : ∀ (x0 : Nat) (x1 : Int) (x2 : Nat) (x3 : Int) (h : Hp), R32 x1 → R32 x3 → k25 x0 x1 x2 x3 h = some res → J L xs l RX10 cX10_partBelow 5 false 3 (QV res) 0 0 25 [(0, vr x0), (1, vi x1), (2, vr x2), (3, vi x3)] [] h) (hk46 : ∀ (x0 : Nat) (x1 : Int) (x2 : Nat) (x3 : Int) (x4 : Int) (h : Hp), R32 x1 → R32 x3 → R32 x4 → k46 x0 x1 x2 x3 x4 h = some res → J L xs l RX10 cX10_partBelow 5 false 3 (QV res) 0 0 46 [(0, vr x0), (1, vi x1), (2, vr x2), (3, vi x3), (4, vi x4)] [] h) (x0 : Nat) (x1 : Int) (x2 : Nat) (x3 : Int) (x4 : Int) (h : Hp) (rx1 : R32 x1) (rx3 : R32 x3) (rx4 : R32 x4) (H : fX10_partBelow_84 k25 k46 x0 x1 x2 x3 x4 h = some res) : J L xs l RX10 cX10_partBelow 5 false 3 (QV res) 0 0 84 [(0, vr x0), (1, vi x1), (2, vr x2), (3, vi x3), (4, vi x4)] [] h := by
  unfold fX10_partBelow_84 at H
  obtain ⟨u1, e1, H⟩ := bs H
  have r1 := c32_R e1
  refine j_iinc (k0 := 4) (lv' := [(0, vr x0), (1, vi x1), (2, vr x2), (3, vi x3), (4, vi (x4 + 1))]) (pc' := 87) dX10_partBelow_84 rfl rfl (by decide) [1, 2, 3, 4, 0] rfl ?_
  refine j_goto (tgt := 46) dX10_partBelow_87 (by decide) ?_
  exact hk46 x0 x1 x2 x3 (x4 + 1) h rx1 rx3 r1 H
noncomputable def fX10_partBelow_46 (k25 : Nat → Int → Nat → Int → Hp → Option (Hp)) : Nat → Nat → Int → Nat → Int → Int → Hp → Option (Hp)
  | 0, _, _, _, _, _, _ => none
  | n + 1, x0, x1, x2, x3, x4, h => (getI h 5 x2 0).bind fun v1 => if v1 ≤ x4 then (fX10_partBelow_90 k25 x0 x1 x2 x3 h) else ((getR h 5 x2 2).bind fun v3 => (ald h 0 v3 x4).bind fun v4 => (getR h 9 x0 3).bind fun v5 => (ald h 0 v5 x3).bind fun v6 => if v4 = v6 then ((getR h 5 x2 2).bind fun v8 => (getR h 9 x0 2).bind fun v9 => (ald h 0 v9 x3).bind fun v10 => (ast h 0 v8 x4 v10).bind fun h11 => fX10_partBelow_84 k25 (fX10_partBelow_46 k25 n) x0 x1 x2 x3 x4 h11) else (fX10_partBelow_84 k25 (fX10_partBelow_46 k25 n) x0 x1 x2 x3 x4 h))
theorem tX10_partBelow_46 {L : Nat} {xs : Nat → Int32} {l : Launch} {res : Hp} (k25 : Nat → Int → Nat → Int → Hp → Option (Hp)) (hk25 : ∀ (x0 : Nat) (x1 : Int) (x2 : Nat) (x3 : Int) (h : Hp), R32 x1 → R32 x3 → k25 x0 x1 x2 x3 h = some res → J L xs l RX10 cX10_partBelow 5 false 3 (QV res) 0 0 25 [(0, vr x0), (1, vi x1), (2, vr x2), (3, vi x3)] [] h) : ∀ (n : Nat) (x0 : Nat) (x1 : Int) (x2 : Nat) (x3 : Int) (x4 : Int) (h : Hp), R32 x1 → R32 x3 → R32 x4 → fX10_partBelow_46 k25 n x0 x1 x2 x3 x4 h = some res → J L xs l RX10 cX10_partBelow 5 false 3 (QV res) 0 0 46 [(0, vr x0), (1, vi x1), (2, vr x2), (3, vi x3), (4, vi x4)] [] h := by
  intro n
  induction n with
  | zero => intro x0 x1 x2 x3 x4 h rx1 rx3 rx4 H; cases H
  | succ n ih =>
    intro x0 x1 x2 x3 x4 h rx1 rx3 rx4 H
    rw [fX10_partBelow_46] at H
    refine j_iload (pc' := 48) dX10_partBelow_46 rfl 4 rfl ?_
    refine j_aload_n (i := 2) (pc' := 49) dX10_partBelow_48 rfl rfl 2 rfl ?_
    obtain ⟨v1, e1, H⟩ := bs H
    refine j_getI (pc' := 52) dX10_partBelow_49 rfl fl_X10_72 e1 (fun r1 => ?_)
    refine j_icmp_ge (tgt := 90) (pc' := 55) dX10_partBelow_52 (by decide) rfl rx4 r1 (fun c2 => ?_) (fun c2 => ?_)
    · rw [if_pos c2] at H
      refine j_sub (lv' := [(0, vr x0), (1, vi x1), (2, vr x2), (3, vi x3)]) [0, 1, 2, 3] rfl ?_
      exact tX10_partBelow_90 _ hk25 x0 x1 x2 x3 h rx1 rx3 H
    · rw [if_neg c2] at H
      refine j_aload_n (i := 2) (pc' := 56) dX10_partBelow_55 rfl rfl 2 rfl ?_
      obtain ⟨v3, e3, H⟩ := bs H
      refine j_getR (pc' := 59) dX10_partBelow_56 rfl fl_X10_75 e3 (fun r3 => ?_)
      refine j_iload (pc' := 61) dX10_partBelow_59 rfl 4 rfl ?_
      obtain ⟨v4, e4, H⟩ := bs H
      refine j_iald (pc' := 62) dX10_partBelow_61 rfl e4 (fun r4 => ?_)
      refine j_aload_n (i := 0) (pc' := 63) dX10_partBelow_62 rfl rfl 0 rfl ?_
      obtain ⟨v5, e5, H⟩ := bs H
      refine j_getR (pc' := 66) dX10_partBelow_63 rfl fl_X10_22 e5 (fun r5 => ?_)
      refine j_iload_n (i := 3) (pc' := 67) dX10_partBelow_66 rfl rfl 3 rfl ?_
      obtain ⟨v6, e6, H⟩ := bs H
      refine j_iald (pc' := 68) dX10_partBelow_67 rfl e6 (fun r6 => ?_)
      refine j_icmp_ne (tgt := 84) (pc' := 71) dX10_partBelow_68 (by decide) rfl r4 r6 (fun c7 => ?_) (fun c7 => ?_)
      · rw [if_neg c7] at H
        exact tX10_partBelow_84 _ _ hk25 ih x0 x1 x2 x3 x4 h rx1 rx3 rx4 H
      · rw [if_pos c7] at H
        refine j_aload_n (i := 2) (pc' := 72) dX10_partBelow_71 rfl rfl 2 rfl ?_
        obtain ⟨v8, e8, H⟩ := bs H
        refine j_getR (pc' := 75) dX10_partBelow_72 rfl fl_X10_75 e8 (fun r8 => ?_)
        refine j_iload (pc' := 77) dX10_partBelow_75 rfl 4 rfl ?_
        refine j_aload_n (i := 0) (pc' := 78) dX10_partBelow_77 rfl rfl 0 rfl ?_
        obtain ⟨v9, e9, H⟩ := bs H
        refine j_getR (pc' := 81) dX10_partBelow_78 rfl fl_X10_18 e9 (fun r9 => ?_)
        refine j_iload_n (i := 3) (pc' := 82) dX10_partBelow_81 rfl rfl 3 rfl ?_
        obtain ⟨v10, e10, H⟩ := bs H
        refine j_iald (pc' := 83) dX10_partBelow_82 rfl e10 (fun r10 => ?_)
        obtain ⟨h11, e11, H⟩ := bs H
        refine j_iast (pc' := 84) dX10_partBelow_83 rfl r10 e11 ?_
        exact tX10_partBelow_84 _ _ hk25 ih x0 x1 x2 x3 x4 h11 rx1 rx3 rx4 H
noncomputable def fX10_partBelow_25 : Nat → Nat → Int → Nat → Int → Hp → Option (Hp)
  | 0, _, _, _, _, _ => none
  | n + 1, x0, x1, x2, x3, h => (getI h 9 x0 0).bind fun v1 => if v1 ≤ x3 then (fX10_partBelow_96 x2 h) else ((getR h 9 x0 4).bind fun v3 => (ald h 0 v3 x3).bind fun v4 => if x1 < v4 then (fX10_partBelow_96 x2 h) else (fX10_partBelow_46 (fX10_partBelow_25 n) FU x0 x1 x2 x3 0 h))
theorem tX10_partBelow_25 {L : Nat} {xs : Nat → Int32} {l : Launch} {res : Hp} : ∀ (n : Nat) (x0 : Nat) (x1 : Int) (x2 : Nat) (x3 : Int) (h : Hp), R32 x1 → R32 x3 → fX10_partBelow_25 n x0 x1 x2 x3 h = some res → J L xs l RX10 cX10_partBelow 5 false 3 (QV res) 0 0 25 [(0, vr x0), (1, vi x1), (2, vr x2), (3, vi x3)] [] h := by
  intro n
  induction n with
  | zero => intro x0 x1 x2 x3 h rx1 rx3 H; cases H
  | succ n ih =>
    intro x0 x1 x2 x3 h rx1 rx3 H
    rw [fX10_partBelow_25] at H
    refine j_iload_n (i := 3) (pc' := 26) dX10_partBelow_25 rfl rfl 3 rfl ?_
    refine j_aload_n (i := 0) (pc' := 27) dX10_partBelow_26 rfl rfl 0 rfl ?_
    obtain ⟨v1, e1, H⟩ := bs H
    refine j_getI (pc' := 30) dX10_partBelow_27 rfl fl_X10_9 e1 (fun r1 => ?_)
    refine j_icmp_ge (tgt := 96) (pc' := 33) dX10_partBelow_30 (by decide) rfl rx3 r1 (fun c2 => ?_) (fun c2 => ?_)
    · rw [if_pos c2] at H
      refine j_sub (lv' := [(2, vr x2)]) [2] rfl ?_
      exact tX10_partBelow_96   x2 h  H
    · rw [if_neg c2] at H
      refine j_aload_n (i := 0) (pc' := 34) dX10_partBelow_33 rfl rfl 0 rfl ?_
      obtain ⟨v3, e3, H⟩ := bs H
      refine j_getR (pc' := 37) dX10_partBelow_34 rfl fl_X10_25 e3 (fun r3 => ?_)
      refine j_iload_n (i := 3) (pc' := 38) dX10_partBelow_37 rfl rfl 3 rfl ?_
      obtain ⟨v4, e4, H⟩ := bs H
      refine j_iald (pc' := 39) dX10_partBelow_38 rfl e4 (fun r4 => ?_)
      refine j_iload_n (i := 1) (pc' := 40) dX10_partBelow_39 rfl rfl 1 rfl ?_
      refine j_icmp_gt (tgt := 96) (pc' := 43) dX10_partBelow_40 (by decide) rfl r4 rx1 (fun c5 => ?_) (fun c5 => ?_)
      · rw [if_pos c5] at H
        refine j_sub (lv' := [(2, vr x2)]) [2] rfl ?_
        exact tX10_partBelow_96   x2 h  H
      · rw [if_neg c5] at H
        refine j_iconst (pc' := 44) dX10_partBelow_43 rfl ?_
        refine j_istore (lv' := [(0, vr x0), (1, vi x1), (2, vr x2), (3, vi x3), (4, vi 0)]) (pc' := 46) dX10_partBelow_44 rfl (by decide) [1, 2, 3, 4, 0] rfl ?_
        exact tX10_partBelow_46 _ ih FU x0 x1 x2 x3 0 h rx1 rx3 ⟨by decide, by decide⟩ H
noncomputable def fX10_partBelow_23 (x0 : Nat) (x1 : Int) (x2 : Nat) (h : Hp) : Option (Hp) :=
  fX10_partBelow_25 FU x0 x1 x2 0 h
theorem tX10_partBelow_23 {L : Nat} {xs : Nat → Int32} {l : Launch} {res : Hp} (x0 : Nat) (x1 : Int) (x2 : Nat) (h : Hp) (rx1 : R32 x1) (H : fX10_partBelow_23 x0 x1 x2 h = some res) : J L xs l RX10 cX10_partBelow 5 false 3 (QV res) 0 0 23 [(0, vr x0), (1, vi x1), (2, vr x2)] [] h := by
  unfold fX10_partBelow_23 at H
  refine j_iconst (pc' := 24) dX10_partBelow_23 rfl ?_
  refine j_istore_n (i := 3) (lv' := [(0, vr x0), (1, vi x1), (2, vr x2), (3, vi 0)]) (pc' := 25) dX10_partBelow_24 rfl rfl (by decide) [1, 2, 3, 0] rfl ?_
  exact tX10_partBelow_25   FU x0 x1 x2 0 h rx1 ⟨by decide, by decide⟩ H
noncomputable def fX10_partBelow_2 : Nat → Nat → Int → Nat → Int → Hp → Option (Hp)
  | 0, _, _, _, _, _ => none
  | n + 1, x0, x1, x2, x3, h => (getI h 5 x2 0).bind fun v1 => if v1 ≤ x3 then (fX10_partBelow_23 x0 x1 x2 h) else ((getR h 5 x2 2).bind fun v3 => (ast h 0 v3 x3 x3).bind fun h4 => (c32 (x3 + 1)).bind fun _ => fX10_partBelow_2 n x0 x1 x2 (x3 + 1) h4)
theorem tX10_partBelow_2 {L : Nat} {xs : Nat → Int32} {l : Launch} {res : Hp} : ∀ (n : Nat) (x0 : Nat) (x1 : Int) (x2 : Nat) (x3 : Int) (h : Hp), R32 x1 → R32 x3 → fX10_partBelow_2 n x0 x1 x2 x3 h = some res → J L xs l RX10 cX10_partBelow 5 false 3 (QV res) 0 0 2 [(0, vr x0), (1, vi x1), (2, vr x2), (3, vi x3)] [] h := by
  intro n
  induction n with
  | zero => intro x0 x1 x2 x3 h rx1 rx3 H; cases H
  | succ n ih =>
    intro x0 x1 x2 x3 h rx1 rx3 H
    rw [fX10_partBelow_2] at H
    refine j_iload_n (i := 3) (pc' := 3) dX10_partBelow_2 rfl rfl 3 rfl ?_
    refine j_aload_n (i := 2) (pc' := 4) dX10_partBelow_3 rfl rfl 2 rfl ?_
    obtain ⟨v1, e1, H⟩ := bs H
    refine j_getI (pc' := 7) dX10_partBelow_4 rfl fl_X10_72 e1 (fun r1 => ?_)
    refine j_icmp_ge (tgt := 23) (pc' := 10) dX10_partBelow_7 (by decide) rfl rx3 r1 (fun c2 => ?_) (fun c2 => ?_)
    · rw [if_pos c2] at H
      refine j_sub (lv' := [(0, vr x0), (1, vi x1), (2, vr x2)]) [0, 1, 2] rfl ?_
      exact tX10_partBelow_23   x0 x1 x2 h rx1 H
    · rw [if_neg c2] at H
      refine j_aload_n (i := 2) (pc' := 11) dX10_partBelow_10 rfl rfl 2 rfl ?_
      obtain ⟨v3, e3, H⟩ := bs H
      refine j_getR (pc' := 14) dX10_partBelow_11 rfl fl_X10_75 e3 (fun r3 => ?_)
      refine j_iload_n (i := 3) (pc' := 15) dX10_partBelow_14 rfl rfl 3 rfl ?_
      refine j_iload_n (i := 3) (pc' := 16) dX10_partBelow_15 rfl rfl 3 rfl ?_
      obtain ⟨h4, e4, H⟩ := bs H
      refine j_iast (pc' := 17) dX10_partBelow_16 rfl rx3 e4 ?_
      obtain ⟨u5, e5, H⟩ := bs H
      have r5 := c32_R e5
      refine j_iinc (k0 := 3) (lv' := [(0, vr x0), (1, vi x1), (2, vr x2), (3, vi (x3 + 1))]) (pc' := 20) dX10_partBelow_17 rfl rfl (by decide) [1, 2, 3, 0] rfl ?_
      refine j_goto (tgt := 2) dX10_partBelow_20 (by decide) ?_
      exact ih x0 x1 x2 (x3 + 1) h4 rx1 r5 H
noncomputable def fX10_partBelow (a0 : Nat) (a1 : Int) (a2 : Nat) (h : Hp) : Option (Hp) :=
  fX10_partBelow_2 FU a0 a1 a2 0 h
theorem tX10_partBelow {L : Nat} {xs : Nat → Int32} {l : Launch} {res : Hp} (a0 : Nat) (a1 : Int) (a2 : Nat) (h : Hp) (ra1 : R32 a1) (H : fX10_partBelow a0 a1 a2 h = some res) : J L xs l RX10 cX10_partBelow 5 false 3 (QV res) 0 0 0 (alv 0 [vr a0, vi a1, vr a2]) [] h := by
  unfold fX10_partBelow at H
  show J L xs l RX10 cX10_partBelow 5 false 3 (QV res) 0 0 0 [(0, vr a0), (1, vi a1), (2, vr a2)] [] h
  refine j_iconst (pc' := 1) dX10_partBelow_0 rfl ?_
  refine j_istore_n (i := 3) (lv' := [(0, vr a0), (1, vi a1), (2, vr a2), (3, vi 0)]) (pc' := 2) dX10_partBelow_1 rfl rfl (by decide) [1, 2, 3, 0] rfl ?_
  exact tX10_partBelow_2   FU a0 a1 a2 0 h ra1 ⟨by decide, by decide⟩ H
