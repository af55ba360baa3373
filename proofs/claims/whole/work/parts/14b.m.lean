-- X2_init
noncomputable def fX2_init (a0 : Nat) (h : Hp) : Option (Hp) :=
  (cob h 1 a0).bind fun _ => (crf h a0).bind fun _ => (newO h (arr 0 12 (fun _ => 0))).bind fun p3 => (crf p3.2 p3.1).bind fun _ => (putV p3.2 1 a0 0 (vr p3.1)).bind fun h5 => (crf h5 a0).bind fun _ => (newO h5 (arr 1 128 (fun _ => 0))).bind fun p7 => (crf p7.2 p7.1).bind fun _ => (putV p7.2 1 a0 1 (vr p7.1)).bind fun h9 => some h9
theorem tX2_init {L : Nat} {xs : Nat → Int32} {l : Launch} {res : Hp} (a0 : Nat) (h : Hp)  (H : fX2_init a0 h = some res) : J L xs l RX2 cX2_init 1 true 1 (QV res) 2 140 0 (alv 0 [vr a0]) [] h := by
  unfold fX2_init at H
  show J L xs l RX2 cX2_init 1 true 1 (QV res) 2 140 0 [(0, vr a0)] [] h
  refine j_aload_n (i := 0) (pc' := 1) dX2_init_0 rfl rfl 0 rfl ?_
  obtain ⟨u1, e1, H⟩ := bs H
  refine j_objInit (pc' := 4) dX2_init_1 rfl ml_X2_3 oi_1 oi_2 (by decide) e1 (Nat.le_of_ble_eq_true rfl) ?_
  refine j_aload_n (i := 0) (pc' := 5) dX2_init_4 rfl rfl 0 rfl ?_
  refine j_bipush (pc' := 7) dX2_init_5 rfl (by decide +kernel) ?_
  obtain ⟨u2, e2, H⟩ := bs H
  obtain ⟨p3, e3, H⟩ := bs H
  refine j_newIp (N := 12) (rc := 1) (rs := 128) (pc' := 9) rfl (by decide) dX2_init_7 rfl ak_int ⟨(crf_R e2), trivial⟩ ⟨(crf_R e2), trivial⟩ e3 ?_
  obtain ⟨u4, e4, H⟩ := bs H
  obtain ⟨h5, e5, H⟩ := bs H
  refine j_putF (pc' := 12) dX2_init_9 rfl rfl fp_X2_9 tR (crf_R e4) e5 ?_
  refine j_aload_n (i := 0) (pc' := 13) dX2_init_12 rfl rfl 0 rfl ?_
  refine j_sipush (pc' := 16) dX2_init_13 rfl (by decide +kernel) ?_
  obtain ⟨u6, e6, H⟩ := bs H
  obtain ⟨p7, e7, H⟩ := bs H
  refine j_newLp (N := 128) (rc := 0) (rs := 0) (pc' := 18) rfl (by decide) dX2_init_16 rfl ak_long ⟨(crf_R e6), trivial⟩ ⟨(crf_R e6), trivial⟩ e7 ?_
  obtain ⟨u8, e8, H⟩ := bs H
  obtain ⟨h9, e9, H⟩ := bs H
  refine j_putF (pc' := 21) dX2_init_18 rfl rfl fp_X2_15 tR (crf_R e8) e9 ?_
  obtain rfl := Option.some.inj H
  exact j_vret dX2_init_21 ⟨rfl, rfl⟩
-- X2_shuffle
noncomputable def fX2_shuffle_91  (h : Hp) : Option (Hp) :=
  some h
theorem tX2_shuffle_91 {L : Nat} {xs : Nat → Int32} {l : Launch} {res : Hp}  (h : Hp)  (H : fX2_shuffle_91  h = some res) : J L xs l RX2 cX2_shuffle 7 false 1 (QV res) 0 0 91 [] [] h := by
  unfold fX2_shuffle_91 at H
  obtain rfl := Option.some.inj H
  exact j_vret dX2_shuffle_91 ⟨rfl, rfl⟩
noncomputable def fX2_shuffle_27 : Nat → Nat → Int → Int → Hp → Option (Hp)
  | 0, _, _, _, _ => none
  | n + 1, x0, x3, x4, h => if x4 < 1 then (fX2_shuffle_91 h) else ((c32 (x4 + 1)).bind fun _ => (cnz (x4 + 1)).bind fun _ => (getR h 1 x0 0).bind fun v4 => (ald h 0 v4 x4).bind fun v5 => (getR h 1 x0 0).bind fun v6 => (getR h 1 x0 0).bind fun v7 => (ald h 0 v7 (bRem (bUsh (wAdd (x3 * 1103515245) 12345) 16) (x4 + 1))).bind fun v8 => (ast h 0 v6 x4 v8).bind fun h9 => (getR h9 1 x0 0).bind fun v10 => (ast h9 0 v10 (bRem (bUsh (wAdd (x3 * 1103515245) 12345) 16) (x4 + 1)) v5).bind fun h11 => (c32 (x4 + (-1))).bind fun _ => fX2_shuffle_27 n x0 (wAdd (x3 * 1103515245) 12345) (x4 + (-1)) h11)
theorem tX2_shuffle_27 {L : Nat} {xs : Nat → Int32} {l : Launch} {res : Hp} : ∀ (n : Nat) (x0 : Nat) (x3 : Int) (x4 : Int) (h : Hp), R32 x3 → R32 x4 → fX2_shuffle_27 n x0 x3 x4 h = some res → J L xs l RX2 cX2_shuffle 7 false 1 (QV res) 0 0 27 [(0, vr x0), (3, vi x3), (4, vi x4)] [] h := by
  intro n
  induction n with
  | zero => intro x0 x3 x4 h rx3 rx4 H; cases H
  | succ n ih =>
    intro x0 x3 x4 h rx3 rx4 H
    rw [fX2_shuffle_27] at H
    refine j_iload (pc' := 29) dX2_shuffle_27 rfl 2 rfl ?_
    refine j_iconst (pc' := 30) dX2_shuffle_29 rfl ?_
    refine j_icmp_lt (tgt := 91) (pc' := 33) dX2_shuffle_30 (by decide) rfl rx4 ⟨by decide, by decide⟩ (fun c1 => ?_) (fun c1 => ?_)
    · rw [if_pos c1] at H
      refine j_sub (lv' := []) [] rfl ?_
      exact tX2_shuffle_91   h  H
    · rw [if_neg c1] at H
      refine j_iload_n (i := 3) (pc' := 34) dX2_shuffle_33 rfl rfl 1 rfl ?_
      refine j_ldc (z := 1103515245) (pc' := 36) dX2_shuffle_34 rfl kk_X2_19 (by decide +kernel) ?_
      refine j_imul (pc' := 37) dX2_shuffle_36 rfl ?_
      refine j_sipush (pc' := 40) dX2_shuffle_37 rfl (by decide +kernel) ?_
      refine j_iaddw (pc' := 41) dX2_shuffle_40 rfl ?_
      refine j_istore_n (i := 3) (lv' := [(0, vr x0), (3, vi (wAdd (x3 * 1103515245) 12345)), (4, vi x4)]) (pc' := 42) dX2_shuffle_41 rfl rfl (by decide) [1, 0, 2] rfl ?_
      refine j_iload_n (i := 3) (pc' := 43) dX2_shuffle_42 rfl rfl 1 rfl ?_
      refine j_bipush (pc' := 45) dX2_shuffle_43 rfl (by decide +kernel) ?_
      refine j_iushr (pc' := 46) dX2_shuffle_45 rfl ?_
      refine j_iload (pc' := 48) dX2_shuffle_46 rfl 2 rfl ?_
      refine j_iconst (pc' := 49) dX2_shuffle_48 rfl ?_
      refine j_iadd (pc' := 50) dX2_shuffle_49 rfl ?_
      obtain ⟨u2, e2, H⟩ := bs H
      have r2 := c32_R e2
      obtain ⟨u3, e3, H⟩ := bs H
      refine j_irem (pc' := 51) dX2_shuffle_50 rfl r2 (cnz_R e3) ?_
      refine j_istore (lv' := [(0, vr x0), (3, vi (wAdd (x3 * 1103515245) 12345)), (4, vi x4), (5, vi (bRem (bUsh (wAdd (x3 * 1103515245) 12345) 16) (x4 + 1)))]) (pc' := 53) dX2_shuffle_51 rfl (by decide) [1, 2, 3, 0] rfl ?_
      refine j_aload_n (i := 0) (pc' := 54) dX2_shuffle_53 rfl rfl 0 rfl ?_
      obtain ⟨v4, e4, H⟩ := bs H
      refine j_getR (pc' := 57) dX2_shuffle_54 rfl fl_X2_9 e4 (fun r4 => ?_)
      refine j_iload (pc' := 59) dX2_shuffle_57 rfl 2 rfl ?_
      obtain ⟨v5, e5, H⟩ := bs H
      refine j_iald (pc' := 60) dX2_shuffle_59 rfl e5 (fun r5 => ?_)
      refine j_istore (lv' := [(0, vr x0), (3, vi (wAdd (x3 * 1103515245) 12345)), (4, vi x4), (5, vi (bRem (bUsh (wAdd (x3 * 1103515245) 12345) 16) (x4 + 1))), (6, vi v5)]) (pc' := 62) dX2_shuffle_60 rfl (by decide) [1, 2, 3, 4, 0] rfl ?_
      refine j_aload_n (i := 0) (pc' := 63) dX2_shuffle_62 rfl rfl 0 rfl ?_
      obtain ⟨v6, e6, H⟩ := bs H
      refine j_getR (pc' := 66) dX2_shuffle_63 rfl fl_X2_9 e6 (fun r6 => ?_)
      refine j_iload (pc' := 68) dX2_shuffle_66 rfl 2 rfl ?_
      refine j_aload_n (i := 0) (pc' := 69) dX2_shuffle_68 rfl rfl 0 rfl ?_
      obtain ⟨v7, e7, H⟩ := bs H
      refine j_getR (pc' := 72) dX2_shuffle_69 rfl fl_X2_9 e7 (fun r7 => ?_)
      refine j_iload (pc' := 74) dX2_shuffle_72 rfl 3 rfl ?_
      obtain ⟨v8, e8, H⟩ := bs H
      refine j_iald (pc' := 75) dX2_shuffle_74 rfl e8 (fun r8 => ?_)
      obtain ⟨h9, e9, H⟩ := bs H
      refine j_iast (pc' := 76) dX2_shuffle_75 rfl r8 e9 ?_
      refine j_aload_n (i := 0) (pc' := 77) dX2_shuffle_76 rfl rfl 0 rfl ?_
      obtain ⟨v10, e10, H⟩ := bs H
      refine j_getR (pc' := 80) dX2_shuffle_77 rfl fl_X2_9 e10 (fun r10 => ?_)
      refine j_iload (pc' := 82) dX2_shuffle_80 rfl 3 rfl ?_
      refine j_iload (pc' := 84) dX2_shuffle_82 rfl 4 rfl ?_
      obtain ⟨h11, e11, H⟩ := bs H
      refine j_iast (pc' := 85) dX2_shuffle_84 rfl r5 e11 ?_
      obtain ⟨u12, e12, H⟩ := bs H
      have r12 := c32_R e12
      refine j_iinc (k0 := 2) (lv' := [(0, vr x0), (3, vi (wAdd (x3 * 1103515245) 12345)), (4, vi (x4 + (-1))), (5, vi (bRem (bUsh (wAdd (x3 * 1103515245) 12345) 16) (x4 + 1))), (6, vi v5)]) (pc' := 88) dX2_shuffle_85 rfl rfl (by decide) [1, 2, 0, 3, 4] rfl ?_
      refine j_goto (tgt := 27) dX2_shuffle_88 (by decide) ?_
      refine j_sub (lv' := [(0, vr x0), (3, vi (wAdd (x3 * 1103515245) 12345)), (4, vi (x4 + (-1)))]) [0, 1, 2] rfl ?_
      exact ih x0 (wAdd (x3 * 1103515245) 12345) (x4 + (-1)) h11 (R32_to _) r12 H
noncomputable def fX2_shuffle_20 (x0 : Nat) (x1 : Int) (x2 : Int) (h : Hp) : Option (Hp) :=
  (c32 (x2 - 1)).bind fun _ => fX2_shuffle_27 FU x0 x1 (x2 - 1) h
theorem tX2_shuffle_20 {L : Nat} {xs : Nat → Int32} {l : Launch} {res : Hp} (x0 : Nat) (x1 : Int) (x2 : Int) (h : Hp) (rx1 : R32 x1) (rx2 : R32 x2) (H : fX2_shuffle_20 x0 x1 x2 h = some res) : J L xs l RX2 cX2_shuffle 7 false 1 (QV res) 0 0 20 [(0, vr x0), (1, vi x1), (2, vi x2)] [] h := by
  unfold fX2_shuffle_20 at H
  refine j_iload_n (i := 1) (pc' := 21) dX2_shuffle_20 rfl rfl 1 rfl ?_
  refine j_istore_n (i := 3) (lv' := [(0, vr x0), (1, vi x1), (2, vi x2), (3, vi x1)]) (pc' := 22) dX2_shuffle_21 rfl rfl (by decide) [1, 2, 3, 0] rfl ?_
  refine j_iload_n (i := 2) (pc' := 23) dX2_shuffle_22 rfl rfl 2 rfl ?_
  refine j_iconst (pc' := 24) dX2_shuffle_23 rfl ?_
  refine j_isub (pc' := 25) dX2_shuffle_24 rfl ?_
  obtain ⟨u1, e1, H⟩ := bs H
  have r1 := c32_R e1
  refine j_istore (lv' := [(0, vr x0), (1, vi x1), (2, vi x2), (3, vi x1), (4, vi (x2 - 1))]) (pc' := 27) dX2_shuffle_25 rfl (by decide) [1, 2, 3, 4, 0] rfl ?_
  refine j_sub (lv' := [(0, vr x0), (3, vi x1), (4, vi (x2 - 1))]) [0, 3, 4] rfl ?_
  exact tX2_shuffle_27   FU x0 x1 (x2 - 1) h rx1 r1 H
noncomputable def fX2_shuffle_2 : Nat → Nat → Int → Int → Int → Hp → Option (Hp)
  | 0, _, _, _, _, _ => none
  | n + 1, x0, x1, x2, x3, h => if x2 ≤ x3 then (fX2_shuffle_20 x0 x1 x2 h) else ((getR h 1 x0 0).bind fun v2 => (ast h 0 v2 x3 x3).bind fun h3 => (c32 (x3 + 1)).bind fun _ => fX2_shuffle_2 n x0 x1 x2 (x3 + 1) h3)
theorem tX2_shuffle_2 {L : Nat} {xs : Nat → Int32} {l : Launch} {res : Hp} : ∀ (n : Nat) (x0 : Nat) (x1 : Int) (x2 : Int) (x3 : Int) (h : Hp), R32 x1 → R32 x2 → R32 x3 → fX2_shuffle_2 n x0 x1 x2 x3 h = some res → J L xs l RX2 cX2_shuffle 7 false 1 (QV res) 0 0 2 [(0, vr x0), (1, vi x1), (2, vi x2), (3, vi x3)] [] h := by
  intro n
  induction n with
  | zero => intro x0 x1 x2 x3 h rx1 rx2 rx3 H; cases H
  | succ n ih =>
    intro x0 x1 x2 x3 h rx1 rx2 rx3 H
    rw [fX2_shuffle_2] at H
    refine j_iload_n (i := 3) (pc' := 3) dX2_shuffle_2 rfl rfl 3 rfl ?_
    refine j_iload_n (i := 2) (pc' := 4) dX2_shuffle_3 rfl rfl 2 rfl ?_
    refine j_icmp_ge (tgt := 20) (pc' := 7) dX2_shuffle_4 (by decide) rfl rx3 rx2 (fun c1 => ?_) (fun c1 => ?_)
    · rw [if_pos c1] at H
      refine j_sub (lv' := [(0, vr x0), (1, vi x1), (2, vi x2)]) [0, 1, 2] rfl ?_
      exact tX2_shuffle_20   x0 x1 x2 h rx1 rx2 H
    · rw [if_neg c1] at H
      refine j_aload_n (i := 0) (pc' := 8) dX2_shuffle_7 rfl rfl 0 rfl ?_
      obtain ⟨v2, e2, H⟩ := bs H
      refine j_getR (pc' := 11) dX2_shuffle_8 rfl fl_X2_9 e2 (fun r2 => ?_)
      refine j_iload_n (i := 3) (pc' := 12) dX2_shuffle_11 rfl rfl 3 rfl ?_
      refine j_iload_n (i := 3) (pc' := 13) dX2_shuffle_12 rfl rfl 3 rfl ?_
      obtain ⟨h3, e3, H⟩ := bs H
      refine j_iast (pc' := 14) dX2_shuffle_13 rfl rx3 e3 ?_
      obtain ⟨u4, e4, H⟩ := bs H
      have r4 := c32_R e4
      refine j_iinc (k0 := 3) (lv' := [(0, vr x0), (1, vi x1), (2, vi x2), (3, vi (x3 + 1))]) (pc' := 17) dX2_shuffle_14 rfl rfl (by decide) [1, 2, 3, 0] rfl ?_
      refine j_goto (tgt := 2) dX2_shuffle_17 (by decide) ?_
      exact ih x0 x1 x2 (x3 + 1) h3 rx1 rx2 r4 H
noncomputable def fX2_shuffle (a0 : Nat) (a1 : Int) (a2 : Int) (h : Hp) : Option (Hp) :=
  fX2_shuffle_2 FU a0 a1 a2 0 h
theorem tX2_shuffle {L : Nat} {xs : Nat → Int32} {l : Launch} {res : Hp} (a0 : Nat) (a1 : Int) (a2 : Int) (h : Hp) (ra1 : R32 a1) (ra2 : R32 a2) (H : fX2_shuffle a0 a1 a2 h = some res) : J L xs l RX2 cX2_shuffle 7 false 1 (QV res) 0 0 0 (alv 0 [vr a0, vi a1, vi a2]) [] h := by
  unfold fX2_shuffle at H
  show J L xs l RX2 cX2_shuffle 7 false 1 (QV res) 0 0 0 [(0, vr a0), (1, vi a1), (2, vi a2)] [] h
  refine j_iconst (pc' := 1) dX2_shuffle_0 rfl ?_
  refine j_istore_n (i := 3) (lv' := [(0, vr a0), (1, vi a1), (2, vi a2), (3, vi 0)]) (pc' := 2) dX2_shuffle_1 rfl rfl (by decide) [1, 2, 3, 0] rfl ?_
  exact tX2_shuffle_2   FU a0 a1 a2 0 h ra1 ra2 ⟨by decide, by decide⟩ H
-- X7_pulls
noncomputable def fX7_pulls_24 (s0 : Int) (h : Hp) : Option (Int × Hp) :=
  (cbo s0).bind fun _ => some (s0, h)
theorem tX7_pulls_24 {L : Nat} {xs : Nat → Int32} {l : Launch} {res : Int × Hp} (s0 : Int) (h : Hp) (rs0 : R32 s0) (H : fX7_pulls_24 s0 h = some res) : J L xs l RX7 cX7_pulls 3 false 2 (QB res) 0 0 24 [] [vi s0] h := by
  unfold fX7_pulls_24 at H
  obtain ⟨u1, e1, H⟩ := bs H
  obtain rfl := Option.some.inj H
  exact j_iret dX7_pulls_24 rs0 ⟨rfl, rfl, cbo_R e1⟩
noncomputable def fX7_pulls_23  (h : Hp) : Option (Int × Hp) :=
  fX7_pulls_24 0 h
theorem tX7_pulls_23 {L : Nat} {xs : Nat → Int32} {l : Launch} {res : Int × Hp}  (h : Hp)  (H : fX7_pulls_23  h = some res) : J L xs l RX7 cX7_pulls 3 false 2 (QB res) 0 0 23 [] [] h := by
  unfold fX7_pulls_23 at H
  refine j_iconst (pc' := 24) dX7_pulls_23 rfl ?_
  exact tX7_pulls_24   0 h ⟨by decide, by decide⟩ H
noncomputable def fX7_pulls (a0 : Nat) (a1 : Int) (a2 : Int) (h : Hp) : Option (Int × Hp) :=
  (cob h 6 a0).bind fun _ => (fX7_weightOf a0 a1 a2 h).bind fun p2 => if p2.1 ≤ 0 then (fX7_pulls_23 p2.2) else ((cob p2.2 6 a0).bind fun _ => (fX7_likeOf a0 a1 a2 p2.2).bind fun p5 => if p5.1 = 1 then (fX7_pulls_24 1 p5.2) else (fX7_pulls_23 p5.2))
theorem tX7_pulls {L : Nat} {xs : Nat → Int32} {l : Launch} {res : Int × Hp} (a0 : Nat) (a1 : Int) (a2 : Int) (h : Hp) (ra1 : R32 a1) (ra2 : R32 a2) (H : fX7_pulls a0 a1 a2 h = some res) : J L xs l RX7 cX7_pulls 3 false 2 (QB res) 0 0 0 (alv 0 [vr a0, vi a1, vi a2]) [] h := by
  unfold fX7_pulls at H
  show J L xs l RX7 cX7_pulls 3 false 2 (QB res) 0 0 0 [(0, vr a0), (1, vi a1), (2, vi a2)] [] h
  refine j_aload_n (i := 0) (pc' := 1) dX7_pulls_0 rfl rfl 0 rfl ?_
  refine j_iload_n (i := 1) (pc' := 2) dX7_pulls_1 rfl rfl 1 rfl ?_
  refine j_iload_n (i := 2) (pc' := 3) dX7_pulls_2 rfl rfl 2 rfl ?_
  obtain ⟨u1, e1, H⟩ := bs H
  obtain ⟨p2, e2, H⟩ := bs H
  refine j_cVi (y := yX7_weightOf) (dY := 1) (vs := [vi a1, vi a2]) (st := []) (q := a0) (pc' := 6) dX7_pulls_3 rfl ymX7_weightOf yvX7_weightOf ml_X7_55 (by decide) rfl (Nat.le_of_ble_eq_true rfl) (Nat.le_of_ble_eq_true rfl) e1 (tX7_weightOf a0 a1 a2 h ra1 ra2 e2) (fun r2 z2 => ?_)
  refine j_if_le (tgt := 23) (pc' := 9) dX7_pulls_6 (by decide) rfl r2 (fun c3 => ?_) (fun c3 => ?_)
  · rw [if_pos c3] at H
    refine j_sub (lv' := []) [] rfl ?_
    exact tX7_pulls_23   p2.2  H
  · rw [if_neg c3] at H
    refine j_aload_n (i := 0) (pc' := 10) dX7_pulls_9 rfl rfl 0 rfl ?_
    refine j_iload_n (i := 1) (pc' := 11) dX7_pulls_10 rfl rfl 1 rfl ?_
    refine j_iload_n (i := 2) (pc' := 12) dX7_pulls_11 rfl rfl 2 rfl ?_
    obtain ⟨u4, e4, H⟩ := bs H
    obtain ⟨p5, e5, H⟩ := bs H
    refine j_cVi (y := yX7_likeOf) (dY := 1) (vs := [vi a1, vi a2]) (st := []) (q := a0) (pc' := 15) dX7_pulls_12 rfl ymX7_likeOf yvX7_likeOf ml_X7_59 (by decide) rfl (Nat.le_of_ble_eq_true rfl) (Nat.le_of_ble_eq_true rfl) e4 (tX7_likeOf a0 a1 a2 p2.2 ra1 ra2 e5) (fun r5 z5 => ?_)
    refine j_iconst (pc' := 16) dX7_pulls_15 rfl ?_
    refine j_icmp_ne (tgt := 23) (pc' := 19) dX7_pulls_16 (by decide) rfl r5 ⟨by decide, by decide⟩ (fun c6 => ?_) (fun c6 => ?_)
    · rw [if_neg c6] at H
      refine j_sub (lv' := []) [] rfl ?_
      exact tX7_pulls_23   p5.2  H
    · rw [if_pos c6] at H
      refine j_iconst (pc' := 20) dX7_pulls_19 rfl ?_
      refine j_goto (tgt := 24) dX7_pulls_20 (by decide) ?_
      refine j_sub (lv' := []) [] rfl ?_
      exact tX7_pulls_24   1 p5.2 ⟨by decide, by decide⟩ H
-- X2_likedBy
noncomputable def fX2_likedBy_48 (x3 : Int) (h : Hp) : Option (Int × Hp) :=
  some (x3, h)
theorem tX2_likedBy_48 {L : Nat} {xs : Nat → Int32} {l : Launch} {res : Int × Hp} (x3 : Int) (h : Hp) (rx3 : R32 x3) (H : fX2_likedBy_48 x3 h = some res) : J L xs l RX2 cX2_likedBy 5 false 3 (QI res) 0 0 48 [(3, vi x3)] [] h := by
  unfold fX2_likedBy_48 at H
  refine j_iload_n (i := 3) (pc' := 49) dX2_likedBy_48 rfl rfl 0 rfl ?_
  obtain rfl := Option.some.inj H
  exact j_iret dX2_likedBy_49 rx3 ⟨rfl, rfl⟩
noncomputable def fX2_likedBy_42 (k7 : Nat → Int → Int → Int → Int → Hp → Option (Int × Hp)) (x0 : Nat) (x1 : Int) (x2 : Int) (x3 : Int) (x4 : Int) (h : Hp) : Option (Int × Hp) :=
  (c32 (x4 + 1)).bind fun _ => k7 x0 x1 x2 x3 (x4 + 1) h
theorem tX2_likedBy_42 {L : Nat} {xs : Nat → Int32} {l : Launch} {res : Int × Hp} (k7 : Nat → Int → Int → Int → Int → Hp → Option (Int × Hp)) (hk7 : ∀ (x0 : Nat) (x1 : Int) (x2 : Int) (x3 : Int) (x4 : Int) (h : Hp), R32 x1 → R32 x2 → R32 x3 → R32 x4 → k7 x0 x1 x2 x3 x4 h = some res → J L xs l RX2 cX2_likedBy 5 false 3 (QI res) 0 0 7 [(0, vr x0), (1, vi x1), (2, vi x2), (3, vi x3), (4, vi x4)] [] h) (x0 : Nat) (x1 : Int) (x2 : Int) (x3 : Int) (x4 : Int) (h : Hp) (rx1 : R32 x1) (rx2 : R32 x2) (rx3 : R32 x3) (rx4 : R32 x4) (H : fX2_likedBy_42 k7 x0 x1 x2 x3 x4 h = some res) : J L xs l RX2 cX2_likedBy 5 false 3 (QI res) 0 0 42 [(0, vr x0), (1, vi x1), (2, vi x2), (3, vi x3), (4, vi x4)] [] h := by
  unfold fX2_likedBy_42 at H
  obtain ⟨u1, e1, H⟩ := bs H
  have r1 := c32_R e1
  refine j_iinc (k0 := 4) (lv' := [(0, vr x0), (1, vi x1), (2, vi x2), (3, vi x3), (4, vi (x4 + 1))]) (pc' := 45) dX2_likedBy_42 rfl rfl (by decide) [1, 2, 3, 4, 0] rfl ?_
  refine j_goto (tgt := 7) dX2_likedBy_45 (by decide) ?_
  exact hk7 x0 x1 x2 x3 (x4 + 1) h rx1 rx2 rx3 r1 H
noncomputable def fX2_likedBy_7 : Nat → Nat → Int → Int → Int → Int → Hp → Option (Int × Hp)
  | 0, _, _, _, _, _, _ => none
  | n + 1, x0, x1, x2, x3, x4, h => (getI h 6 x0 0).bind fun v1 => if v1 ≤ x4 then (fX2_likedBy_48 x3 h) else ((fX0_has x2 x4 h).bind fun p3 => if p3.1 = 0 then (fX2_likedBy_42 (fX2_likedBy_7 n) x0 x1 x2 x3 x4 p3.2) else ((cob p3.2 6 x0).bind fun _ => (fX7_pulls x0 x1 x4 p3.2).bind fun p6 => if p6.1 = 0 then (fX2_likedBy_42 (fX2_likedBy_7 n) x0 x1 x2 x3 x4 p6.2) else (fX2_likedBy_42 (fX2_likedBy_7 n) x0 x1 x2 (bOr x3 (bShl 1 x4)) x4 p6.2)))
theorem tX2_likedBy_7 {L : Nat} {xs : Nat → Int32} {l : Launch} {res : Int × Hp} : ∀ (n : Nat) (x0 : Nat) (x1 : Int) (x2 : Int) (x3 : Int) (x4 : Int) (h : Hp), R32 x1 → R32 x2 → R32 x3 → R32 x4 → fX2_likedBy_7 n x0 x1 x2 x3 x4 h = some res → J L xs l RX2 cX2_likedBy 5 false 3 (QI res) 0 0 7 [(0, vr x0), (1, vi x1), (2, vi x2), (3, vi x3), (4, vi x4)] [] h := by
  intro n
  induction n with
  | zero => intro x0 x1 x2 x3 x4 h rx1 rx2 rx3 rx4 H; cases H
  | succ n ih =>
    intro x0 x1 x2 x3 x4 h rx1 rx2 rx3 rx4 H
    rw [fX2_likedBy_7] at H
    refine j_iload (pc' := 9) dX2_likedBy_7 rfl 4 rfl ?_
    refine j_aload_n (i := 0) (pc' := 10) dX2_likedBy_9 rfl rfl 0 rfl ?_
    obtain ⟨v1, e1, H⟩ := bs H
    refine j_getI (pc' := 13) dX2_likedBy_10 rfl fl_X2_26 e1 (fun r1 => ?_)
    refine j_icmp_ge (tgt := 48) (pc' := 16) dX2_likedBy_13 (by decide) rfl rx4 r1 (fun c2 => ?_) (fun c2 => ?_)
    · rw [if_pos c2] at H
      refine j_sub (lv' := [(3, vi x3)]) [3] rfl ?_
      exact tX2_likedBy_48   x3 h rx3 H
    · rw [if_neg c2] at H
      refine j_iload_n (i := 2) (pc' := 17) dX2_likedBy_16 rfl rfl 2 rfl ?_
      refine j_iload (pc' := 19) dX2_likedBy_17 rfl 4 rfl ?_
      obtain ⟨p3, e3, H⟩ := bs H
      refine j_cSb (y := yX0_has) (dY := 1) (vs := [vi x2, vi x4]) (st := []) (pc' := 22) dX2_likedBy_19 rfl ymX0_has ysX0_has ml_X2_30 (by decide) rfl (Nat.le_of_ble_eq_true rfl) (Nat.le_of_ble_eq_true rfl) (tX0_has x2 x4 h rx2 rx4 e3) (fun r3 b3 z3 => ?_)
      refine j_if_eq (tgt := 42) (pc' := 25) dX2_likedBy_22 (by decide) rfl r3 (fun c4 => ?_) (fun c4 => ?_)
      · rw [if_pos c4] at H
        exact tX2_likedBy_42 _ ih x0 x1 x2 x3 x4 p3.2 rx1 rx2 rx3 rx4 H
      · rw [if_neg c4] at H
        refine j_aload_n (i := 0) (pc' := 26) dX2_likedBy_25 rfl rfl 0 rfl ?_
        refine j_iload_n (i := 1) (pc' := 27) dX2_likedBy_26 rfl rfl 1 rfl ?_
        refine j_iload (pc' := 29) dX2_likedBy_27 rfl 4 rfl ?_
        obtain ⟨u5, e5, H⟩ := bs H
        obtain ⟨p6, e6, H⟩ := bs H
        refine j_cVb (y := yX7_pulls) (dY := 2) (vs := [vi x1, vi x4]) (st := []) (q := x0) (pc' := 32) dX2_likedBy_29 rfl ymX7_pulls yvX7_pulls ml_X2_48 (by decide) rfl (Nat.le_of_ble_eq_true rfl) (Nat.le_of_ble_eq_true rfl) e5 (tX7_pulls x0 x1 x4 p3.2 rx1 rx4 e6) (fun r6 b6 z6 => ?_)
        refine j_if_eq (tgt := 42) (pc' := 35) dX2_likedBy_32 (by decide) rfl r6 (fun c7 => ?_) (fun c7 => ?_)
        · rw [if_pos c7] at H
          exact tX2_likedBy_42 _ ih x0 x1 x2 x3 x4 p6.2 rx1 rx2 rx3 rx4 H
        · rw [if_neg c7] at H
          refine j_iload_n (i := 3) (pc' := 36) dX2_likedBy_35 rfl rfl 3 rfl ?_
          refine j_iconst (pc' := 37) dX2_likedBy_36 rfl ?_
          refine j_iload (pc' := 39) dX2_likedBy_37 rfl 4 rfl ?_
          refine j_ishl (pc' := 40) dX2_likedBy_39 rfl ?_
          refine j_ior (pc' := 41) dX2_likedBy_40 rfl ?_
          refine j_istore_n (i := 3) (lv' := [(0, vr x0), (1, vi x1), (2, vi x2), (3, vi (bOr x3 (bShl 1 x4))), (4, vi x4)]) (pc' := 42) dX2_likedBy_41 rfl rfl (by decide) [1, 2, 3, 0, 4] rfl ?_
          exact tX2_likedBy_42 _ ih x0 x1 x2 (bOr x3 (bShl 1 x4)) x4 p6.2 rx1 rx2 (R32_to _) rx4 H
noncomputable def fX2_likedBy (a0 : Nat) (a1 : Int) (a2 : Int) (h : Hp) : Option (Int × Hp) :=
  fX2_likedBy_7 FU a0 a1 a2 (bShl 1 a1) 0 h
theorem tX2_likedBy {L : Nat} {xs : Nat → Int32} {l : Launch} {res : Int × Hp} (a0 : Nat) (a1 : Int) (a2 : Int) (h : Hp) (ra1 : R32 a1) (ra2 : R32 a2) (H : fX2_likedBy a0 a1 a2 h = some res) : J L xs l RX2 cX2_likedBy 5 false 3 (QI res) 0 0 0 (alv 0 [vr a0, vi a1, vi a2]) [] h := by
  unfold fX2_likedBy at H
  show J L xs l RX2 cX2_likedBy 5 false 3 (QI res) 0 0 0 [(0, vr a0), (1, vi a1), (2, vi a2)] [] h
  refine j_iconst (pc' := 1) dX2_likedBy_0 rfl ?_
  refine j_iload_n (i := 1) (pc' := 2) dX2_likedBy_1 rfl rfl 1 rfl ?_
  refine j_ishl (pc' := 3) dX2_likedBy_2 rfl ?_
  refine j_istore_n (i := 3) (lv' := [(0, vr a0), (1, vi a1), (2, vi a2), (3, vi (bShl 1 a1))]) (pc' := 4) dX2_likedBy_3 rfl rfl (by decide) [1, 2, 3, 0] rfl ?_
  refine j_iconst (pc' := 5) dX2_likedBy_4 rfl ?_
  refine j_istore (lv' := [(0, vr a0), (1, vi a1), (2, vi a2), (3, vi (bShl 1 a1)), (4, vi 0)]) (pc' := 7) dX2_likedBy_5 rfl (by decide) [1, 2, 3, 4, 0] rfl ?_
  exact tX2_likedBy_7   FU a0 a1 a2 (bShl 1 a1) 0 h ra1 ra2 (R32_to _) ⟨by decide, by decide⟩ H
-- J7_fill_53178
noncomputable def fJ7_fill_53178_20  (h : Hp) : Option (Hp) :=
  some h
theorem tJ7_fill_53178_20 {L : Nat} {xs : Nat → Int32} {l : Launch} {res : Hp}  (h : Hp)  (H : fJ7_fill_53178_20  h = some res) : J L xs l RJ7 cJ7_fill_53178 4 false 1 (QV res) 0 0 20 [] [] h := by
  unfold fJ7_fill_53178_20 at H
  obtain rfl := Option.some.inj H
  exact j_vret dJ7_fill_53178_20 ⟨rfl, rfl⟩
noncomputable def fJ7_fill_53178_5 : Nat → Nat → Int → Int → Int → Hp → Option (Hp)
  | 0, _, _, _, _, _ => none
  | n + 1, x0, x1, x2, x3, h => if x3 ≤ x2 then (fJ7_fill_53178_20 h) else ((ast h 0 x0 x2 x1).bind fun h2 => (c32 (x2 + 1)).bind fun _ => fJ7_fill_53178_5 n x0 x1 (x2 + 1) x3 h2)
theorem tJ7_fill_53178_5 {L : Nat} {xs : Nat → Int32} {l : Launch} {res : Hp} : ∀ (n : Nat) (x0 : Nat) (x1 : Int) (x2 : Int) (x3 : Int) (h : Hp), R32 x1 → R32 x2 → R32 x3 → fJ7_fill_53178_5 n x0 x1 x2 x3 h = some res → J L xs l RJ7 cJ7_fill_53178 4 false 1 (QV res) 0 0 5 [(0, vr x0), (1, vi x1), (2, vi x2), (3, vi x3)] [] h := by
  intro n
  induction n with
  | zero => intro x0 x1 x2 x3 h rx1 rx2 rx3 H; cases H
  | succ n ih =>
    intro x0 x1 x2 x3 h rx1 rx2 rx3 H
    rw [fJ7_fill_53178_5] at H
    refine j_iload_n (i := 2) (pc' := 6) dJ7_fill_53178_5 rfl rfl 2 rfl ?_
    refine j_iload_n (i := 3) (pc' := 7) dJ7_fill_53178_6 rfl rfl 3 rfl ?_
    refine j_icmp_ge (tgt := 20) (pc' := 10) dJ7_fill_53178_7 (by decide) rfl rx2 rx3 (fun c1 => ?_) (fun c1 => ?_)
    · rw [if_pos c1] at H
      refine j_sub (lv' := []) [] rfl ?_
      exact tJ7_fill_53178_20   h  H
    · rw [if_neg c1] at H
      refine j_aload_n (i := 0) (pc' := 11) dJ7_fill_53178_10 rfl rfl 0 rfl ?_
      refine j_iload_n (i := 2) (pc' := 12) dJ7_fill_53178_11 rfl rfl 2 rfl ?_
      refine j_iload_n (i := 1) (pc' := 13) dJ7_fill_53178_12 rfl rfl 1 rfl ?_
      obtain ⟨h2, e2, H⟩ := bs H
      refine j_iast (pc' := 14) dJ7_fill_53178_13 rfl rx1 e2 ?_
      obtain ⟨u3, e3, H⟩ := bs H
      have r3 := c32_R e3
      refine j_iinc (k0 := 2) (lv' := [(0, vr x0), (1, vi x1), (2, vi (x2 + 1)), (3, vi x3)]) (pc' := 17) dJ7_fill_53178_14 rfl rfl (by decide) [1, 2, 0, 3] rfl ?_
      refine j_goto (tgt := 5) dJ7_fill_53178_17 (by decide) ?_
      exact ih x0 x1 (x2 + 1) x3 h2 rx1 r3 rx3 H
noncomputable def fJ7_fill_53178 (a0 : Nat) (a1 : Int) (h : Hp) : Option (Hp) :=
  (aln h 0 a0).bind fun v1 => fJ7_fill_53178_5 FU a0 a1 0 v1 h
theorem tJ7_fill_53178 {L : Nat} {xs : Nat → Int32} {l : Launch} {res : Hp} (a0 : Nat) (a1 : Int) (h : Hp) (ra1 : R32 a1) (H : fJ7_fill_53178 a0 a1 h = some res) : J L xs l RJ7 cJ7_fill_53178 4 false 1 (QV res) 0 0 0 (alv 0 [vr a0, vi a1]) [] h := by
  unfold fJ7_fill_53178 at H
  show J L xs l RJ7 cJ7_fill_53178 4 false 1 (QV res) 0 0 0 [(0, vr a0), (1, vi a1)] [] h
  refine j_iconst (pc' := 1) dJ7_fill_53178_0 rfl ?_
  refine j_istore_n (i := 2) (lv' := [(0, vr a0), (1, vi a1), (2, vi 0)]) (pc' := 2) dJ7_fill_53178_1 rfl rfl (by decide) [1, 2, 0] rfl ?_
  refine j_aload_n (i := 0) (pc' := 3) dJ7_fill_53178_2 rfl rfl 0 rfl ?_
  obtain ⟨v1, e1, H⟩ := bs H
  refine j_alen (kd := 0) (pc' := 4) dJ7_fill_53178_3 rfl e1 (fun r1 => ?_)
  refine j_istore_n (i := 3) (lv' := [(0, vr a0), (1, vi a1), (2, vi 0), (3, vi v1)]) (pc' := 5) dJ7_fill_53178_4 rfl rfl (by decide) [1, 2, 3, 0] rfl ?_
  exact tJ7_fill_53178_5   FU a0 a1 0 v1 h ra1 ⟨by decide, by decide⟩ r1 H
-- X6_renumber
noncomputable def fX6_renumber_94  (h : Hp) : Option (Hp) :=
  some h
theorem tX6_renumber_94 {L : Nat} {xs : Nat → Int32} {l : Launch} {res : Hp}  (h : Hp)  (H : fX6_renumber_94  h = some res) : J L xs l RX6 cX6_renumber 3 false 2 (QV res) 0 0 94 [] [] h := by
  unfold fX6_renumber_94 at H
  obtain rfl := Option.some.inj H
  exact j_vret dX6_renumber_94 ⟨rfl, rfl⟩
noncomputable def fX6_renumber_88 (k15 : Nat → Int → Hp → Option (Hp)) (x0 : Nat) (x1 : Int) (h : Hp) : Option (Hp) :=
  (c32 (x1 + 1)).bind fun _ => k15 x0 (x1 + 1) h
theorem tX6_renumber_88 {L : Nat} {xs : Nat → Int32} {l : Launch} {res : Hp} (k15 : Nat → Int → Hp → Option (Hp)) (hk15 : ∀ (x0 : Nat) (x1 : Int) (h : Hp), R32 x1 → k15 x0 x1 h = some res → J L xs l RX6 cX6_renumber 3 false 2 (QV res) 0 0 15 [(0, vr x0), (1, vi x1)] [] h) (x0 : Nat) (x1 : Int) (h : Hp) (rx1 : R32 x1) (H : fX6_renumber_88 k15 x0 x1 h = some res) : J L xs l RX6 cX6_renumber 3 false 2 (QV res) 0 0 88 [(0, vr x0), (1, vi x1)] [] h := by
  unfold fX6_renumber_88 at H
  obtain ⟨u1, e1, H⟩ := bs H
  have r1 := c32_R e1
  refine j_iinc (k0 := 1) (lv' := [(0, vr x0), (1, vi (x1 + 1))]) (pc' := 91) dX6_renumber_88 rfl rfl (by decide) [1, 0] rfl ?_
  refine j_goto (tgt := 15) dX6_renumber_91 (by decide) ?_
  exact hk15 x0 (x1 + 1) h r1 H
noncomputable def fX6_renumber_76 (k15 : Nat → Int → Hp → Option (Hp)) (x0 : Nat) (x1 : Int) (x2 : Int) (h : Hp) : Option (Hp) :=
  (getR h 5 x0 2).bind fun v1 => (getR h 5 x0 3).bind fun v2 => (ald h 0 v2 x2).bind fun v3 => (ast h 0 v1 x1 v3).bind fun h4 => fX6_renumber_88 k15 x0 x1 h4
theorem tX6_renumber_76 {L : Nat} {xs : Nat → Int32} {l : Launch} {res : Hp} (k15 : Nat → Int → Hp → Option (Hp)) (hk15 : ∀ (x0 : Nat) (x1 : Int) (h : Hp), R32 x1 → k15 x0 x1 h = some res → J L xs l RX6 cX6_renumber 3 false 2 (QV res) 0 0 15 [(0, vr x0), (1, vi x1)] [] h) (x0 : Nat) (x1 : Int) (x2 : Int) (h : Hp) (rx1 : R32 x1) (rx2 : R32 x2) (H : fX6_renumber_76 k15 x0 x1 x2 h = some res) : J L xs l RX6 cX6_renumber 3 false 2 (QV res) 0 0 76 [(0, vr x0), (1, vi x1), (2, vi x2)] [] h := by
  unfold fX6_renumber_76 at H
  refine j_aload_n (i := 0) (pc' := 77) dX6_renumber_76 rfl rfl 0 rfl ?_
  obtain ⟨v1, e1, H⟩ := bs H
  refine j_getR (pc' := 80) dX6_renumber_77 rfl fl_X6_18 e1 (fun r1 => ?_)
  refine j_iload_n (i := 1) (pc' := 81) dX6_renumber_80 rfl rfl 1 rfl ?_
  refine j_aload_n (i := 0) (pc' := 82) dX6_renumber_81 rfl rfl 0 rfl ?_
  obtain ⟨v2, e2, H⟩ := bs H
  refine j_getR (pc' := 85) dX6_renumber_82 rfl fl_X6_22 e2 (fun r2 => ?_)
  refine j_iload_n (i := 2) (pc' := 86) dX6_renumber_85 rfl rfl 2 rfl ?_
  obtain ⟨v3, e3, H⟩ := bs H
  refine j_iald (pc' := 87) dX6_renumber_86 rfl e3 (fun r3 => ?_)
  obtain ⟨h4, e4, H⟩ := bs H
  refine j_iast (pc' := 88) dX6_renumber_87 rfl r3 e4 ?_
  refine j_sub (lv' := [(0, vr x0), (1, vi x1)]) [0, 1] rfl ?_
  exact tX6_renumber_88 _ hk15 x0 x1 h4 rx1 H
noncomputable def fX6_renumber_15 : Nat → Nat → Int → Hp → Option (Hp)
  | 0, _, _, _ => none
  | n + 1, x0, x1, h => (getI h 5 x0 0).bind fun v1 => if v1 ≤ x1 then (fX6_renumber_94 h) else ((getR h 5 x0 2).bind fun v3 => (ald h 0 v3 x1).bind fun v4 => if v4 < 0 then (fX6_renumber_88 (fX6_renumber_15 n) x0 x1 h) else ((getR h 5 x0 3).bind fun v6 => (aln h 0 v6).bind fun v7 => if v4 < v7 then ((getR h 5 x0 3).bind fun v9 => (ald h 0 v9 v4).bind fun v10 => if v10 = (-1) then ((getR h 5 x0 3).bind fun v12 => (getI h 5 x0 1).bind fun v13 => (ast h 0 v12 v4 v13).bind fun h14 => (getI h14 5 x0 1).bind fun v15 => (c32 (v15 + 1)).bind fun _ => (putV h14 5 x0 1 (vi (v15 + 1))).bind fun h17 => fX6_renumber_76 (fX6_renumber_15 n) x0 x1 v4 h17) else (fX6_renumber_76 (fX6_renumber_15 n) x0 x1 v4 h)) else (fX6_renumber_88 (fX6_renumber_15 n) x0 x1 h)))
theorem tX6_renumber_15 {L : Nat} {xs : Nat → Int32} {l : Launch} {res : Hp} : ∀ (n : Nat) (x0 : Nat) (x1 : Int) (h : Hp), R32 x1 → fX6_renumber_15 n x0 x1 h = some res → J L xs l RX6 cX6_renumber 3 false 2 (QV res) 0 0 15 [(0, vr x0), (1, vi x1)] [] h := by
  intro n
  induction n with
  | zero => intro x0 x1 h rx1 H; cases H
  | succ n ih =>
    intro x0 x1 h rx1 H
    rw [fX6_renumber_15] at H
    refine j_iload_n (i := 1) (pc' := 16) dX6_renumber_15 rfl rfl 1 rfl ?_
    refine j_aload_n (i := 0) (pc' := 17) dX6_renumber_16 rfl rfl 0 rfl ?_
    obtain ⟨v1, e1, H⟩ := bs H
    refine j_getI (pc' := 20) dX6_renumber_17 rfl fl_X6_9 e1 (fun r1 => ?_)
    refine j_icmp_ge (tgt := 94) (pc' := 23) dX6_renumber_20 (by decide) rfl rx1 r1 (fun c2 => ?_) (fun c2 => ?_)
    · rw [if_pos c2] at H
      refine j_sub (lv' := []) [] rfl ?_
      exact tX6_renumber_94   h  H
    · rw [if_neg c2] at H
      refine j_aload_n (i := 0) (pc' := 24) dX6_renumber_23 rfl rfl 0 rfl ?_
      obtain ⟨v3, e3, H⟩ := bs H
      refine j_getR (pc' := 27) dX6_renumber_24 rfl fl_X6_18 e3 (fun r3 => ?_)
      refine j_iload_n (i := 1) (pc' := 28) dX6_renumber_27 rfl rfl 1 rfl ?_
      obtain ⟨v4, e4, H⟩ := bs H
      refine j_iald (pc' := 29) dX6_renumber_28 rfl e4 (fun r4 => ?_)
      refine j_istore_n (i := 2) (lv' := [(0, vr x0), (1, vi x1), (2, vi v4)]) (pc' := 30) dX6_renumber_29 rfl rfl (by decide) [1, 2, 0] rfl ?_
      refine j_iload_n (i := 2) (pc' := 31) dX6_renumber_30 rfl rfl 2 rfl ?_
      refine j_if_lt (tgt := 88) (pc' := 34) dX6_renumber_31 (by decide) rfl r4 (fun c5 => ?_) (fun c5 => ?_)
      · rw [if_pos c5] at H
        refine j_sub (lv' := [(0, vr x0), (1, vi x1)]) [0, 1] rfl ?_
        exact tX6_renumber_88 _ ih x0 x1 h rx1 H
      · rw [if_neg c5] at H
        refine j_iload_n (i := 2) (pc' := 35) dX6_renumber_34 rfl rfl 2 rfl ?_
        refine j_aload_n (i := 0) (pc' := 36) dX6_renumber_35 rfl rfl 0 rfl ?_
        obtain ⟨v6, e6, H⟩ := bs H
        refine j_getR (pc' := 39) dX6_renumber_36 rfl fl_X6_22 e6 (fun r6 => ?_)
        obtain ⟨v7, e7, H⟩ := bs H
        refine j_alen (kd := 0) (pc' := 40) dX6_renumber_39 rfl e7 (fun r7 => ?_)
        refine j_icmp_lt (tgt := 46) (pc' := 43) dX6_renumber_40 (by decide) rfl r4 r7 (fun c8 => ?_) (fun c8 => ?_)
        · rw [if_pos c8] at H
          refine j_aload_n (i := 0) (pc' := 47) dX6_renumber_46 rfl rfl 0 rfl ?_
          obtain ⟨v9, e9, H⟩ := bs H
          refine j_getR (pc' := 50) dX6_renumber_47 rfl fl_X6_22 e9 (fun r9 => ?_)
          refine j_iload_n (i := 2) (pc' := 51) dX6_renumber_50 rfl rfl 2 rfl ?_
          obtain ⟨v10, e10, H⟩ := bs H
          refine j_iald (pc' := 52) dX6_renumber_51 rfl e10 (fun r10 => ?_)
          refine j_iconst (pc' := 53) dX6_renumber_52 rfl ?_
          refine j_icmp_ne (tgt := 76) (pc' := 56) dX6_renumber_53 (by decide) rfl r10 ⟨by decide, by decide⟩ (fun c11 => ?_) (fun c11 => ?_)
          · rw [if_neg c11] at H
            exact tX6_renumber_76 _ ih x0 x1 v4 h rx1 r4 H
          · rw [if_pos c11] at H
            refine j_aload_n (i := 0) (pc' := 57) dX6_renumber_56 rfl rfl 0 rfl ?_
            obtain ⟨v12, e12, H⟩ := bs H
            refine j_getR (pc' := 60) dX6_renumber_57 rfl fl_X6_22 e12 (fun r12 => ?_)
            refine j_iload_n (i := 2) (pc' := 61) dX6_renumber_60 rfl rfl 2 rfl ?_
            refine j_aload_n (i := 0) (pc' := 62) dX6_renumber_61 rfl rfl 0 rfl ?_
            obtain ⟨v13, e13, H⟩ := bs H
            refine j_getI (pc' := 65) dX6_renumber_62 rfl fl_X6_15 e13 (fun r13 => ?_)
            obtain ⟨h14, e14, H⟩ := bs H
            refine j_iast (pc' := 66) dX6_renumber_65 rfl r13 e14 ?_
            refine j_aload_n (i := 0) (pc' := 67) dX6_renumber_66 rfl rfl 0 rfl ?_
            refine j_dup (pc' := 68) dX6_renumber_67 rfl rfl ?_
            obtain ⟨v15, e15, H⟩ := bs H
            refine j_getI (pc' := 71) dX6_renumber_68 rfl fl_X6_15 e15 (fun r15 => ?_)
            refine j_iconst (pc' := 72) dX6_renumber_71 rfl ?_
            refine j_iadd (pc' := 73) dX6_renumber_72 rfl ?_
            obtain ⟨u16, e16, H⟩ := bs H
            have r16 := c32_R e16
            obtain ⟨h17, e17, H⟩ := bs H
            refine j_putV (pc' := 76) dX6_renumber_73 rfl fp_X6_15 tI r16 e17 ?_
            exact tX6_renumber_76 _ ih x0 x1 v4 h17 rx1 r4 H
        · rw [if_neg c8] at H
          refine j_goto (tgt := 88) dX6_renumber_43 (by decide) ?_
          refine j_sub (lv' := [(0, vr x0), (1, vi x1)]) [0, 1] rfl ?_
          exact tX6_renumber_88 _ ih x0 x1 h rx1 H
noncomputable def fX6_renumber (a0 : Nat) (h : Hp) : Option (Hp) :=
  (getR h 5 a0 3).bind fun v1 => (fJ7_fill_53178 v1 (-1) h).bind fun h2 => (putV h2 5 a0 1 (vi 0)).bind fun h3 => fX6_renumber_15 FU a0 0 h3
theorem tX6_renumber {L : Nat} {xs : Nat → Int32} {l : Launch} {res : Hp} (a0 : Nat) (h : Hp)  (H : fX6_renumber a0 h = some res) : J L xs l RX6 cX6_renumber 3 false 2 (QV res) 0 0 0 (alv 0 [vr a0]) [] h := by
  unfold fX6_renumber at H
  show J L xs l RX6 cX6_renumber 3 false 2 (QV res) 0 0 0 [(0, vr a0)] [] h
  refine j_aload_n (i := 0) (pc' := 1) dX6_renumber_0 rfl rfl 0 rfl ?_
  obtain ⟨v1, e1, H⟩ := bs H
  refine j_getR (pc' := 4) dX6_renumber_1 rfl fl_X6_22 e1 (fun r1 => ?_)
  refine j_iconst (pc' := 5) dX6_renumber_4 rfl ?_
  obtain ⟨h2, e2, H⟩ := bs H
  refine j_cSv (y := yJ7_fill_53178) (dY := 1) (vs := [vr v1, vi (-1)]) (st := []) (pc' := 8) dX6_renumber_5 rfl ymJ7_fill_53178 ysJ7_fill_53178 ml_X6_31 (by decide) rfl (Nat.le_of_ble_eq_true rfl) (Nat.le_of_ble_eq_true rfl) (tJ7_fill_53178 v1 (-1) h ⟨by decide, by decide⟩ e2) (fun z2 => ?_)
  refine j_aload_n (i := 0) (pc' := 9) dX6_renumber_8 rfl rfl 0 rfl ?_
  refine j_iconst (pc' := 10) dX6_renumber_9 rfl ?_
  obtain ⟨h3, e3, H⟩ := bs H
  refine j_putV (pc' := 13) dX6_renumber_10 rfl fp_X6_15 tI ⟨by decide, by decide⟩ e3 ?_
  refine j_iconst (pc' := 14) dX6_renumber_13 rfl ?_
  refine j_istore_n (i := 1) (lv' := [(0, vr a0), (1, vi 0)]) (pc' := 15) dX6_renumber_14 rfl rfl (by decide) [1, 0] rfl ?_
  exact tX6_renumber_15   FU a0 0 h3 ⟨by decide, by decide⟩ H
-- X2_gather
noncomputable def fX2_gather_113 (x2 : Nat) (h : Hp) : Option (Hp) :=
  (cob h 5 x2).bind fun _ => (fX6_renumber x2 h).bind fun h2 => some h2
theorem tX2_gather_113 {L : Nat} {xs : Nat → Int32} {l : Launch} {res : Hp} (x2 : Nat) (h : Hp)  (H : fX2_gather_113 x2 h = some res) : J L xs l RX2 cX2_gather 8 false 4 (QV res) 0 0 113 [(2, vr x2)] [] h := by
  unfold fX2_gather_113 at H
  refine j_aload_n (i := 2) (pc' := 114) dX2_gather_113 rfl rfl 0 rfl ?_
  obtain ⟨u1, e1, H⟩ := bs H
  obtain ⟨h2, e2, H⟩ := bs H
  refine j_cVv (y := yX6_renumber) (dY := 2) (vs := []) (st := []) (q := x2) (pc' := 117) dX2_gather_114 rfl ymX6_renumber yvX6_renumber ml_X2_45 (by decide) rfl (Nat.le_of_ble_eq_true rfl) (Nat.le_of_ble_eq_true rfl) e1 (tX6_renumber x2 h e2) (fun z2 => ?_)
  obtain rfl := Option.some.inj H
  exact j_vret dX2_gather_117 ⟨rfl, rfl⟩
noncomputable def fX2_gather_107 (k20 : Nat → Nat → Nat → Int → Int → Int → Hp → Option (Hp)) (x0 : Nat) (x1 : Nat) (x2 : Nat) (x3 : Int) (x4 : Int) (x5 : Int) (h : Hp) : Option (Hp) :=
  (c32 (x5 + 1)).bind fun _ => k20 x0 x1 x2 x3 x4 (x5 + 1) h
theorem tX2_gather_107 {L : Nat} {xs : Nat → Int32} {l : Launch} {res : Hp} (k20 : Nat → Nat → Nat → Int → Int → Int → Hp → Option (Hp)) (hk20 : ∀ (x0 : Nat) (x1 : Nat) (x2 : Nat) (x3 : Int) (x4 : Int) (x5 : Int) (h : Hp), R32 x3 → R32 x4 → R32 x5 → k20 x0 x1 x2 x3 x4 x5 h = some res → J L xs l RX2 cX2_gather 8 false 4 (QV res) 0 0 20 [(0, vr x0), (1, vr x1), (2, vr x2), (3, vi x3), (4, vi x4), (5, vi x5)] [] h) (x0 : Nat) (x1 : Nat) (x2 : Nat) (x3 : Int) (x4 : Int) (x5 : Int) (h : Hp) (rx3 : R32 x3) (rx4 : R32 x4) (rx5 : R32 x5) (H : fX2_gather_107 k20 x0 x1 x2 x3 x4 x5 h = some res) : J L xs l RX2 cX2_gather 8 false 4 (QV res) 0 0 107 [(0, vr x0), (1, vr x1), (2, vr x2), (3, vi x3), (4, vi x4), (5, vi x5)] [] h := by
  unfold fX2_gather_107 at H
  obtain ⟨u1, e1, H⟩ := bs H
  have r1 := c32_R e1
  refine j_iinc (k0 := 5) (lv' := [(0, vr x0), (1, vr x1), (2, vr x2), (3, vi x3), (4, vi x4), (5, vi (x5 + 1))]) (pc' := 110) dX2_gather_107 rfl rfl (by decide) [1, 2, 3, 4, 5, 0] rfl ?_
  refine j_goto (tgt := 20) dX2_gather_110 (by decide) ?_
  exact hk20 x0 x1 x2 x3 x4 (x5 + 1) h rx3 rx4 r1 H
noncomputable def fX2_gather_97 (k20 : Nat → Nat → Nat → Int → Int → Int → Hp → Option (Hp)) (x0 : Nat) (x1 : Nat) (x2 : Nat) (x3 : Int) (x4 : Int) (x5 : Int) (x6 : Int) (h : Hp) : Option (Hp) :=
  (c32 (x4 + 1)).bind fun _ => fX2_gather_107 k20 x0 x1 x2 (bAnd x3 (bXor x6 (-1))) (x4 + 1) x5 h
theorem tX2_gather_97 {L : Nat} {xs : Nat → Int32} {l : Launch} {res : Hp} (k20 : Nat → Nat → Nat → Int → Int → Int → Hp → Option (Hp)) (hk20 : ∀ (x0 : Nat) (x1 : Nat) (x2 : Nat) (x3 : Int) (x4 : Int) (x5 : Int) (h : Hp), R32 x3 → R32 x4 → R32 x5 → k20 x0 x1 x2 x3 x4 x5 h = some res → J L xs l RX2 cX2_gather 8 false 4 (QV res) 0 0 20 [(0, vr x0), (1, vr x1), (2, vr x2), (3, vi x3), (4, vi x4), (5, vi x5)] [] h) (x0 : Nat) (x1 : Nat) (x2 : Nat) (x3 : Int) (x4 : Int) (x5 : Int) (x6 : Int) (h : Hp) (rx3 : R32 x3) (rx4 : R32 x4) (rx5 : R32 x5) (rx6 : R32 x6) (H : fX2_gather_97 k20 x0 x1 x2 x3 x4 x5 x6 h = some res) : J L xs l RX2 cX2_gather 8 false 4 (QV res) 0 0 97 [(0, vr x0), (1, vr x1), (2, vr x2), (3, vi x3), (4, vi x4), (5, vi x5), (6, vi x6)] [] h := by
  unfold fX2_gather_97 at H
  refine j_iload_n (i := 3) (pc' := 98) dX2_gather_97 rfl rfl 3 rfl ?_
  refine j_iload (pc' := 100) dX2_gather_98 rfl 6 rfl ?_
  refine j_iconst (pc' := 101) dX2_gather_100 rfl ?_
  refine j_ixor (pc' := 102) dX2_gather_101 rfl ?_
  refine j_iand (pc' := 103) dX2_gather_102 rfl ?_
  refine j_istore_n (i := 3) (lv' := [(0, vr x0), (1, vr x1), (2, vr x2), (3, vi (bAnd x3 (bXor x6 (-1)))), (4, vi x4), (5, vi x5), (6, vi x6)]) (pc' := 104) dX2_gather_103 rfl rfl (by decide) [1, 2, 3, 0, 4, 5, 6] rfl ?_
  obtain ⟨u1, e1, H⟩ := bs H
  have r1 := c32_R e1
  refine j_iinc (k0 := 4) (lv' := [(0, vr x0), (1, vr x1), (2, vr x2), (3, vi (bAnd x3 (bXor x6 (-1)))), (4, vi (x4 + 1)), (5, vi x5), (6, vi x6)]) (pc' := 107) dX2_gather_104 rfl rfl (by decide) [1, 2, 3, 4, 0, 5, 6] rfl ?_
  refine j_sub (lv' := [(0, vr x0), (1, vr x1), (2, vr x2), (3, vi (bAnd x3 (bXor x6 (-1)))), (4, vi (x4 + 1)), (5, vi x5)]) [0, 1, 2, 3, 4, 5] rfl ?_
  exact tX2_gather_107 _ hk20 x0 x1 x2 (bAnd x3 (bXor x6 (-1))) (x4 + 1) x5 h (R32_to _) r1 rx5 H
noncomputable def fX2_gather_91 (k20 : Nat → Nat → Nat → Int → Int → Int → Hp → Option (Hp)) (k63 : Nat → Nat → Nat → Int → Int → Int → Int → Int → Hp → Option (Hp)) (x0 : Nat) (x1 : Nat) (x2 : Nat) (x3 : Int) (x4 : Int) (x5 : Int) (x6 : Int) (x7 : Int) (h : Hp) : Option (Hp) :=
  (c32 (x7 + 1)).bind fun _ => k63 x0 x1 x2 x3 x4 x5 x6 (x7 + 1) h
theorem tX2_gather_91 {L : Nat} {xs : Nat → Int32} {l : Launch} {res : Hp} (k20 : Nat → Nat → Nat → Int → Int → Int → Hp → Option (Hp)) (k63 : Nat → Nat → Nat → Int → Int → Int → Int → Int → Hp → Option (Hp)) (hk20 : ∀ (x0 : Nat) (x1 : Nat) (x2 : Nat) (x3 : Int) (x4 : Int) (x5 : Int) (h : Hp), R32 x3 → R32 x4 → R32 x5 → k20 x0 x1 x2 x3 x4 x5 h = some res → J L xs l RX2 cX2_gather 8 false 4 (QV res) 0 0 20 [(0, vr x0), (1, vr x1), (2, vr x2), (3, vi x3), (4, vi x4), (5, vi x5)] [] h) (hk63 : ∀ (x0 : Nat) (x1 : Nat) (x2 : Nat) (x3 : Int) (x4 : Int) (x5 : Int) (x6 : Int) (x7 : Int) (h : Hp), R32 x3 → R32 x4 → R32 x5 → R32 x6 → R32 x7 → k63 x0 x1 x2 x3 x4 x5 x6 x7 h = some res → J L xs l RX2 cX2_gather 8 false 4 (QV res) 0 0 63 [(0, vr x0), (1, vr x1), (2, vr x2), (3, vi x3), (4, vi x4), (5, vi x5), (6, vi x6), (7, vi x7)] [] h) (x0 : Nat) (x1 : Nat) (x2 : Nat) (x3 : Int) (x4 : Int) (x5 : Int) (x6 : Int) (x7 : Int) (h : Hp) (rx3 : R32 x3) (rx4 : R32 x4) (rx5 : R32 x5) (rx6 : R32 x6) (rx7 : R32 x7) (H : fX2_gather_91 k20 k63 x0 x1 x2 x3 x4 x5 x6 x7 h = some res) : J L xs l RX2 cX2_gather 8 false 4 (QV res) 0 0 91 [(0, vr x0), (1, vr x1), (2, vr x2), (3, vi x3), (4, vi x4), (5, vi x5), (6, vi x6), (7, vi x7)] [] h := by
  unfold fX2_gather_91 at H
  obtain ⟨u1, e1, H⟩ := bs H
  have r1 := c32_R e1
  refine j_iinc (k0 := 7) (lv' := [(0, vr x0), (1, vr x1), (2, vr x2), (3, vi x3), (4, vi x4), (5, vi x5), (6, vi x6), (7, vi (x7 + 1))]) (pc' := 94) dX2_gather_91 rfl rfl (by decide) [1, 2, 3, 4, 5, 6, 7, 0] rfl ?_
  refine j_goto (tgt := 63) dX2_gather_94 (by decide) ?_
  exact hk63 x0 x1 x2 x3 x4 x5 x6 (x7 + 1) h rx3 rx4 rx5 rx6 r1 H
noncomputable def fX2_gather_63 (k20 : Nat → Nat → Nat → Int → Int → Int → Hp → Option (Hp)) : Nat → Nat → Nat → Nat → Int → Int → Int → Int → Int → Hp → Option (Hp)
  | 0, _, _, _, _, _, _, _, _, _ => none
  | n + 1, x0, x1, x2, x3, x4, x5, x6, x7, h => (getI h 6 x1 0).bind fun v1 => if v1 ≤ x7 then (fX2_gather_97 k20 x0 x1 x2 x3 x4 x5 x6 h) else ((fX0_has x6 x7 h).bind fun p3 => if p3.1 = 0 then (fX2_gather_91 k20 (fX2_gather_63 k20 n) x0 x1 x2 x3 x4 x5 x6 x7 p3.2) else ((getR p3.2 5 x2 2).bind fun v5 => (ast p3.2 0 v5 x7 x4).bind fun h6 => fX2_gather_91 k20 (fX2_gather_63 k20 n) x0 x1 x2 x3 x4 x5 x6 x7 h6))
theorem tX2_gather_63 {L : Nat} {xs : Nat → Int32} {l : Launch} {res : Hp} (k20 : Nat → Nat → Nat → Int → Int → Int → Hp → Option (Hp)) (hk20 : ∀ (x0 : Nat) (x1 : Nat) (x2 : Nat) (x3 : Int) (x4 : Int) (x5 : Int) (h : Hp), R32 x3 → R32 x4 → R32 x5 → k20 x0 x1 x2 x3 x4 x5 h = some res → J L xs l RX2 cX2_gather 8 false 4 (QV res) 0 0 20 [(0, vr x0), (1, vr x1), (2, vr x2), (3, vi x3), (4, vi x4), (5, vi x5)] [] h) : ∀ (n : Nat) (x0 : Nat) (x1 : Nat) (x2 : Nat) (x3 : Int) (x4 : Int) (x5 : Int) (x6 : Int) (x7 : Int) (h : Hp), R32 x3 → R32 x4 → R32 x5 → R32 x6 → R32 x7 → fX2_gather_63 k20 n x0 x1 x2 x3 x4 x5 x6 x7 h = some res → J L xs l RX2 cX2_gather 8 false 4 (QV res) 0 0 63 [(0, vr x0), (1, vr x1), (2, vr x2), (3, vi x3), (4, vi x4), (5, vi x5), (6, vi x6), (7, vi x7)] [] h := by
  intro n
  induction n with
  | zero => intro x0 x1 x2 x3 x4 x5 x6 x7 h rx3 rx4 rx5 rx6 rx7 H; cases H
  | succ n ih =>
    intro x0 x1 x2 x3 x4 x5 x6 x7 h rx3 rx4 rx5 rx6 rx7 H
    rw [fX2_gather_63] at H
    refine j_iload (pc' := 65) dX2_gather_63 rfl 7 rfl ?_
    refine j_aload_n (i := 1) (pc' := 66) dX2_gather_65 rfl rfl 1 rfl ?_
    obtain ⟨v1, e1, H⟩ := bs H
    refine j_getI (pc' := 69) dX2_gather_66 rfl fl_X2_26 e1 (fun r1 => ?_)
    refine j_icmp_ge (tgt := 97) (pc' := 72) dX2_gather_69 (by decide) rfl rx7 r1 (fun c2 => ?_) (fun c2 => ?_)
    · rw [if_pos c2] at H
      refine j_sub (lv' := [(0, vr x0), (1, vr x1), (2, vr x2), (3, vi x3), (4, vi x4), (5, vi x5), (6, vi x6)]) [0, 1, 2, 3, 4, 5, 6] rfl ?_
      exact tX2_gather_97 _ hk20 x0 x1 x2 x3 x4 x5 x6 h rx3 rx4 rx5 rx6 H
    · rw [if_neg c2] at H
      refine j_iload (pc' := 74) dX2_gather_72 rfl 6 rfl ?_
      refine j_iload (pc' := 76) dX2_gather_74 rfl 7 rfl ?_
      obtain ⟨p3, e3, H⟩ := bs H
      refine j_cSb (y := yX0_has) (dY := 1) (vs := [vi x6, vi x7]) (st := []) (pc' := 79) dX2_gather_76 rfl ymX0_has ysX0_has ml_X2_30 (by decide) rfl (Nat.le_of_ble_eq_true rfl) (Nat.le_of_ble_eq_true rfl) (tX0_has x6 x7 h rx6 rx7 e3) (fun r3 b3 z3 => ?_)
      refine j_if_eq (tgt := 91) (pc' := 82) dX2_gather_79 (by decide) rfl r3 (fun c4 => ?_) (fun c4 => ?_)
      · rw [if_pos c4] at H
        exact tX2_gather_91 _ _ hk20 ih x0 x1 x2 x3 x4 x5 x6 x7 p3.2 rx3 rx4 rx5 rx6 rx7 H
      · rw [if_neg c4] at H
        refine j_aload_n (i := 2) (pc' := 83) dX2_gather_82 rfl rfl 2 rfl ?_
        obtain ⟨v5, e5, H⟩ := bs H
        refine j_getR (pc' := 86) dX2_gather_83 rfl fl_X2_40 e5 (fun r5 => ?_)
        refine j_iload (pc' := 88) dX2_gather_86 rfl 7 rfl ?_
        refine j_iload (pc' := 90) dX2_gather_88 rfl 4 rfl ?_
        obtain ⟨h6, e6, H⟩ := bs H
        refine j_iast (pc' := 91) dX2_gather_90 rfl rx4 e6 ?_
        exact tX2_gather_91 _ _ hk20 ih x0 x1 x2 x3 x4 x5 x6 x7 h6 rx3 rx4 rx5 rx6 rx7 H
noncomputable def fX2_gather_20 : Nat → Nat → Nat → Nat → Int → Int → Int → Hp → Option (Hp)
  | 0, _, _, _, _, _, _, _ => none
  | n + 1, x0, x1, x2, x3, x4, x5, h => (getI h 6 x1 0).bind fun v1 => if v1 ≤ x5 then (fX2_gather_113 x2 h) else ((getR h 1 x0 0).bind fun v3 => (ald h 0 v3 x5).bind fun v4 => (fX0_has x3 v4 h).bind fun p5 => if p5.1 = 0 then (fX2_gather_107 (fX2_gather_20 n) x0 x1 x2 x3 x4 x5 p5.2) else ((getR p5.2 1 x0 0).bind fun v7 => (ald p5.2 0 v7 x5).bind fun v8 => (fX2_likedBy x1 v8 x3 p5.2).bind fun p9 => fX2_gather_63 (fX2_gather_20 n) FU x0 x1 x2 x3 x4 x5 p9.1 0 p9.2))
theorem tX2_gather_20 {L : Nat} {xs : Nat → Int32} {l : Launch} {res : Hp} : ∀ (n : Nat) (x0 : Nat) (x1 : Nat) (x2 : Nat) (x3 : Int) (x4 : Int) (x5 : Int) (h : Hp), R32 x3 → R32 x4 → R32 x5 → fX2_gather_20 n x0 x1 x2 x3 x4 x5 h = some res → J L xs l RX2 cX2_gather 8 false 4 (QV res) 0 0 20 [(0, vr x0), (1, vr x1), (2, vr x2), (3, vi x3), (4, vi x4), (5, vi x5)] [] h := by
  intro n
  induction n with
  | zero => intro x0 x1 x2 x3 x4 x5 h rx3 rx4 rx5 H; cases H
  | succ n ih =>
    intro x0 x1 x2 x3 x4 x5 h rx3 rx4 rx5 H
    rw [fX2_gather_20] at H
    refine j_iload (pc' := 22) dX2_gather_20 rfl 5 rfl ?_
    refine j_aload_n (i := 1) (pc' := 23) dX2_gather_22 rfl rfl 1 rfl ?_
    obtain ⟨v1, e1, H⟩ := bs H
    refine j_getI (pc' := 26) dX2_gather_23 rfl fl_X2_26 e1 (fun r1 => ?_)
    refine j_icmp_ge (tgt := 113) (pc' := 29) dX2_gather_26 (by decide) rfl rx5 r1 (fun c2 => ?_) (fun c2 => ?_)
    · rw [if_pos c2] at H
      refine j_sub (lv' := [(2, vr x2)]) [2] rfl ?_
      exact tX2_gather_113   x2 h  H
    · rw [if_neg c2] at H
      refine j_iload_n (i := 3) (pc' := 30) dX2_gather_29 rfl rfl 3 rfl ?_
      refine j_aload_n (i := 0) (pc' := 31) dX2_gather_30 rfl rfl 0 rfl ?_
      obtain ⟨v3, e3, H⟩ := bs H
      refine j_getR (pc' := 34) dX2_gather_31 rfl fl_X2_9 e3 (fun r3 => ?_)
      refine j_iload (pc' := 36) dX2_gather_34 rfl 5 rfl ?_
      obtain ⟨v4, e4, H⟩ := bs H
      refine j_iald (pc' := 37) dX2_gather_36 rfl e4 (fun r4 => ?_)
      obtain ⟨p5, e5, H⟩ := bs H
      refine j_cSb (y := yX0_has) (dY := 1) (vs := [vi x3, vi v4]) (st := []) (pc' := 40) dX2_gather_37 rfl ymX0_has ysX0_has ml_X2_30 (by decide) rfl (Nat.le_of_ble_eq_true rfl) (Nat.le_of_ble_eq_true rfl) (tX0_has x3 v4 h rx3 r4 e5) (fun r5 b5 z5 => ?_)
      refine j_if_ne (tgt := 46) (pc' := 43) dX2_gather_40 (by decide) rfl r5 (fun c6 => ?_) (fun c6 => ?_)
      · rw [if_neg c6] at H
        refine j_aload_n (i := 1) (pc' := 47) dX2_gather_46 rfl rfl 1 rfl ?_
        refine j_aload_n (i := 0) (pc' := 48) dX2_gather_47 rfl rfl 0 rfl ?_
        obtain ⟨v7, e7, H⟩ := bs H
        refine j_getR (pc' := 51) dX2_gather_48 rfl fl_X2_9 e7 (fun r7 => ?_)
        refine j_iload (pc' := 53) dX2_gather_51 rfl 5 rfl ?_
        obtain ⟨v8, e8, H⟩ := bs H
        refine j_iald (pc' := 54) dX2_gather_53 rfl e8 (fun r8 => ?_)
        refine j_iload_n (i := 3) (pc' := 55) dX2_gather_54 rfl rfl 3 rfl ?_
        obtain ⟨p9, e9, H⟩ := bs H
        refine j_cSi (y := yX2_likedBy) (dY := 3) (vs := [vr x1, vi v8, vi x3]) (st := []) (pc' := 58) dX2_gather_55 rfl ymX2_likedBy ysX2_likedBy ml_X2_36 (by decide) rfl (Nat.le_of_ble_eq_true rfl) (Nat.le_of_ble_eq_true rfl) (tX2_likedBy x1 v8 x3 p5.2 r8 rx3 e9) (fun r9 z9 => ?_)
        refine j_istore (lv' := [(0, vr x0), (1, vr x1), (2, vr x2), (3, vi x3), (4, vi x4), (5, vi x5), (6, vi p9.1)]) (pc' := 60) dX2_gather_58 rfl (by decide) [1, 2, 3, 4, 5, 6, 0] rfl ?_
        refine j_iconst (pc' := 61) dX2_gather_60 rfl ?_
        refine j_istore (lv' := [(0, vr x0), (1, vr x1), (2, vr x2), (3, vi x3), (4, vi x4), (5, vi x5), (6, vi p9.1), (7, vi 0)]) (pc' := 63) dX2_gather_61 rfl (by decide) [1, 2, 3, 4, 5, 6, 7, 0] rfl ?_
        exact tX2_gather_63 _ ih FU x0 x1 x2 x3 x4 x5 p9.1 0 p9.2 rx3 rx4 rx5 r9 ⟨by decide, by decide⟩ H
      · rw [if_pos c6] at H
        refine j_goto (tgt := 107) dX2_gather_43 (by decide) ?_
        exact tX2_gather_107 _ ih x0 x1 x2 x3 x4 x5 p5.2 rx3 rx4 rx5 H
noncomputable def fX2_gather (a0 : Nat) (a1 : Nat) (h : Hp) : Option (Hp) :=
  (getR h 6 a1 5).bind fun v1 => (getI h 6 a1 0).bind fun v2 => (c32 ((bShl 1 v2) - 1)).bind fun _ => fX2_gather_20 FU a0 a1 v1 ((bShl 1 v2) - 1) 0 0 h
theorem tX2_gather {L : Nat} {xs : Nat → Int32} {l : Launch} {res : Hp} (a0 : Nat) (a1 : Nat) (h : Hp)  (H : fX2_gather a0 a1 h = some res) : J L xs l RX2 cX2_gather 8 false 4 (QV res) 0 0 0 (alv 0 [vr a0, vr a1]) [] h := by
  unfold fX2_gather at H
  show J L xs l RX2 cX2_gather 8 false 4 (QV res) 0 0 0 [(0, vr a0), (1, vr a1)] [] h
  refine j_aload_n (i := 1) (pc' := 1) dX2_gather_0 rfl rfl 1 rfl ?_
  obtain ⟨v1, e1, H⟩ := bs H
  refine j_getR (pc' := 4) dX2_gather_1 rfl fl_X2_20 e1 (fun r1 => ?_)
  refine j_astore_n (i := 2) (lv' := [(0, vr a0), (1, vr a1), (2, vr v1)]) (pc' := 5) dX2_gather_4 rfl rfl (by decide) [1, 2, 0] rfl ?_
  refine j_iconst (pc' := 6) dX2_gather_5 rfl ?_
  refine j_aload_n (i := 1) (pc' := 7) dX2_gather_6 rfl rfl 1 rfl ?_
  obtain ⟨v2, e2, H⟩ := bs H
  refine j_getI (pc' := 10) dX2_gather_7 rfl fl_X2_26 e2 (fun r2 => ?_)
  refine j_ishl (pc' := 11) dX2_gather_10 rfl ?_
  refine j_iconst (pc' := 12) dX2_gather_11 rfl ?_
  refine j_isub (pc' := 13) dX2_gather_12 rfl ?_
  obtain ⟨u3, e3, H⟩ := bs H
  have r3 := c32_R e3
  refine j_istore_n (i := 3) (lv' := [(0, vr a0), (1, vr a1), (2, vr v1), (3, vi ((bShl 1 v2) - 1))]) (pc' := 14) dX2_gather_13 rfl rfl (by decide) [1, 2, 3, 0] rfl ?_
  refine j_iconst (pc' := 15) dX2_gather_14 rfl ?_
  refine j_istore (lv' := [(0, vr a0), (1, vr a1), (2, vr v1), (3, vi ((bShl 1 v2) - 1)), (4, vi 0)]) (pc' := 17) dX2_gather_15 rfl (by decide) [1, 2, 3, 4, 0] rfl ?_
  refine j_iconst (pc' := 18) dX2_gather_17 rfl ?_
  refine j_istore (lv' := [(0, vr a0), (1, vr a1), (2, vr v1), (3, vi ((bShl 1 v2) - 1)), (4, vi 0), (5, vi 0)]) (pc' := 20) dX2_gather_18 rfl (by decide) [1, 2, 3, 4, 5, 0] rfl ?_
  exact tX2_gather_20   FU a0 a1 v1 ((bShl 1 v2) - 1) 0 0 h r3 ⟨by decide, by decide⟩ ⟨by decide, by decide⟩ H
-- J6_bitCount_0f7a4
noncomputable def fJ6_bitCount_0f7a4 (a0 : Int) (h : Hp) : Option (Int × Hp) :=
  (c32 (a0 - (bAnd (bUsh a0 1) 1431655765))).bind fun _ => (c32 ((bAnd (a0 - (bAnd (bUsh a0 1) 1431655765)) 858993459) + (bAnd (bUsh (a0 - (bAnd (bUsh a0 1) 1431655765)) 2) 858993459))).bind fun _ => (c32 ((bAnd (((bAnd (a0 - (bAnd (bUsh a0 1) 1431655765)) 858993459) + (bAnd (bUsh (a0 - (bAnd (bUsh a0 1) 1431655765)) 2) 858993459)) + (bUsh ((bAnd (a0 - (bAnd (bUsh a0 1) 1431655765)) 858993459) + (bAnd (bUsh (a0 - (bAnd (bUsh a0 1) 1431655765)) 2) 858993459)) 4)) 252645135) + (bUsh (bAnd (((bAnd (a0 - (bAnd (bUsh a0 1) 1431655765)) 858993459) + (bAnd (bUsh (a0 - (bAnd (bUsh a0 1) 1431655765)) 2) 858993459)) + (bUsh ((bAnd (a0 - (bAnd (bUsh a0 1) 1431655765)) 858993459) + (bAnd (bUsh (a0 - (bAnd (bUsh a0 1) 1431655765)) 2) 858993459)) 4)) 252645135) 8))).bind fun _ => (c32 (((bAnd (((bAnd (a0 - (bAnd (bUsh a0 1) 1431655765)) 858993459) + (bAnd (bUsh (a0 - (bAnd (bUsh a0 1) 1431655765)) 2) 858993459)) + (bUsh ((bAnd (a0 - (bAnd (bUsh a0 1) 1431655765)) 858993459) + (bAnd (bUsh (a0 - (bAnd (bUsh a0 1) 1431655765)) 2) 858993459)) 4)) 252645135) + (bUsh (bAnd (((bAnd (a0 - (bAnd (bUsh a0 1) 1431655765)) 858993459) + (bAnd (bUsh (a0 - (bAnd (bUsh a0 1) 1431655765)) 2) 858993459)) + (bUsh ((bAnd (a0 - (bAnd (bUsh a0 1) 1431655765)) 858993459) + (bAnd (bUsh (a0 - (bAnd (bUsh a0 1) 1431655765)) 2) 858993459)) 4)) 252645135) 8)) + (bUsh ((bAnd (((bAnd (a0 - (bAnd (bUsh a0 1) 1431655765)) 858993459) + (bAnd (bUsh (a0 - (bAnd (bUsh a0 1) 1431655765)) 2) 858993459)) + (bUsh ((bAnd (a0 - (bAnd (bUsh a0 1) 1431655765)) 858993459) + (bAnd (bUsh (a0 - (bAnd (bUsh a0 1) 1431655765)) 2) 858993459)) 4)) 252645135) + (bUsh (bAnd (((bAnd (a0 - (bAnd (bUsh a0 1) 1431655765)) 858993459) + (bAnd (bUsh (a0 - (bAnd (bUsh a0 1) 1431655765)) 2) 858993459)) + (bUsh ((bAnd (a0 - (bAnd (bUsh a0 1) 1431655765)) 858993459) + (bAnd (bUsh (a0 - (bAnd (bUsh a0 1) 1431655765)) 2) 858993459)) 4)) 252645135) 8)) 16))).bind fun _ => some ((bAnd (((bAnd (((bAnd (a0 - (bAnd (bUsh a0 1) 1431655765)) 858993459) + (bAnd (bUsh (a0 - (bAnd (bUsh a0 1) 1431655765)) 2) 858993459)) + (bUsh ((bAnd (a0 - (bAnd (bUsh a0 1) 1431655765)) 858993459) + (bAnd (bUsh (a0 - (bAnd (bUsh a0 1) 1431655765)) 2) 858993459)) 4)) 252645135) + (bUsh (bAnd (((bAnd (a0 - (bAnd (bUsh a0 1) 1431655765)) 858993459) + (bAnd (bUsh (a0 - (bAnd (bUsh a0 1) 1431655765)) 2) 858993459)) + (bUsh ((bAnd (a0 - (bAnd (bUsh a0 1) 1431655765)) 858993459) + (bAnd (bUsh (a0 - (bAnd (bUsh a0 1) 1431655765)) 2) 858993459)) 4)) 252645135) 8)) + (bUsh ((bAnd (((bAnd (a0 - (bAnd (bUsh a0 1) 1431655765)) 858993459) + (bAnd (bUsh (a0 - (bAnd (bUsh a0 1) 1431655765)) 2) 858993459)) + (bUsh ((bAnd (a0 - (bAnd (bUsh a0 1) 1431655765)) 858993459) + (bAnd (bUsh (a0 - (bAnd (bUsh a0 1) 1431655765)) 2) 858993459)) 4)) 252645135) + (bUsh (bAnd (((bAnd (a0 - (bAnd (bUsh a0 1) 1431655765)) 858993459) + (bAnd (bUsh (a0 - (bAnd (bUsh a0 1) 1431655765)) 2) 858993459)) + (bUsh ((bAnd (a0 - (bAnd (bUsh a0 1) 1431655765)) 858993459) + (bAnd (bUsh (a0 - (bAnd (bUsh a0 1) 1431655765)) 2) 858993459)) 4)) 252645135) 8)) 16)) 63), h)
theorem tJ6_bitCount_0f7a4 {L : Nat} {xs : Nat → Int32} {l : Launch} {res : Int × Hp} (a0 : Int) (h : Hp) (ra0 : R32 a0) (H : fJ6_bitCount_0f7a4 a0 h = some res) : J L xs l RJ6 cJ6_bitCount_0f7a4 1 false 1 (QI res) 0 0 0 (alv 0 [vi a0]) [] h := by
  unfold fJ6_bitCount_0f7a4 at H
  show J L xs l RJ6 cJ6_bitCount_0f7a4 1 false 1 (QI res) 0 0 0 [(0, vi a0)] [] h
  refine j_iload_n (i := 0) (pc' := 1) dJ6_bitCount_0f7a4_0 rfl rfl 0 rfl ?_
  refine j_iload_n (i := 0) (pc' := 2) dJ6_bitCount_0f7a4_1 rfl rfl 0 rfl ?_
  refine j_iconst (pc' := 3) dJ6_bitCount_0f7a4_2 rfl ?_
  refine j_iushr (pc' := 4) dJ6_bitCount_0f7a4_3 rfl ?_
  refine j_ldcw (z := 1431655765) (pc' := 7) dJ6_bitCount_0f7a4_4 rfl kk_J6_265 (by decide +kernel) ?_
  refine j_iand (pc' := 8) dJ6_bitCount_0f7a4_7 rfl ?_
  refine j_isub (pc' := 9) dJ6_bitCount_0f7a4_8 rfl ?_
  obtain ⟨u1, e1, H⟩ := bs H
  have r1 := c32_R e1
  refine j_istore_n (i := 0) (lv' := [(0, vi (a0 - (bAnd (bUsh a0 1) 1431655765)))]) (pc' := 10) dJ6_bitCount_0f7a4_9 rfl rfl (by decide) [0] rfl ?_
  refine j_iload_n (i := 0) (pc' := 11) dJ6_bitCount_0f7a4_10 rfl rfl 0 rfl ?_
  refine j_ldcw (z := 858993459) (pc' := 14) dJ6_bitCount_0f7a4_11 rfl kk_J6_266 (by decide +kernel) ?_
  refine j_iand (pc' := 15) dJ6_bitCount_0f7a4_14 rfl ?_
  refine j_iload_n (i := 0) (pc' := 16) dJ6_bitCount_0f7a4_15 rfl rfl 0 rfl ?_
  refine j_iconst (pc' := 17) dJ6_bitCount_0f7a4_16 rfl ?_
  refine j_iushr (pc' := 18) dJ6_bitCount_0f7a4_17 rfl ?_
  refine j_ldcw (z := 858993459) (pc' := 21) dJ6_bitCount_0f7a4_18 rfl kk_J6_266 (by decide +kernel) ?_
  refine j_iand (pc' := 22) dJ6_bitCount_0f7a4_21 rfl ?_
  refine j_iadd (pc' := 23) dJ6_bitCount_0f7a4_22 rfl ?_
  obtain ⟨u2, e2, H⟩ := bs H
  have r2 := c32_R e2
  refine j_istore_n (i := 0) (lv' := [(0, vi ((bAnd (a0 - (bAnd (bUsh a0 1) 1431655765)) 858993459) + (bAnd (bUsh (a0 - (bAnd (bUsh a0 1) 1431655765)) 2) 858993459)))]) (pc' := 24) dJ6_bitCount_0f7a4_23 rfl rfl (by decide) [0] rfl ?_
  refine j_iload_n (i := 0) (pc' := 25) dJ6_bitCount_0f7a4_24 rfl rfl 0 rfl ?_
  refine j_iload_n (i := 0) (pc' := 26) dJ6_bitCount_0f7a4_25 rfl rfl 0 rfl ?_
  refine j_iconst (pc' := 27) dJ6_bitCount_0f7a4_26 rfl ?_
  refine j_iushr (pc' := 28) dJ6_bitCount_0f7a4_27 rfl ?_
  refine j_iadd (pc' := 29) dJ6_bitCount_0f7a4_28 rfl ?_
  refine j_ldcw (z := 252645135) (pc' := 32) dJ6_bitCount_0f7a4_29 rfl kk_J6_267 (by decide +kernel) ?_
  refine j_iand (pc' := 33) dJ6_bitCount_0f7a4_32 rfl ?_
  refine j_istore_n (i := 0) (lv' := [(0, vi (bAnd (((bAnd (a0 - (bAnd (bUsh a0 1) 1431655765)) 858993459) + (bAnd (bUsh (a0 - (bAnd (bUsh a0 1) 1431655765)) 2) 858993459)) + (bUsh ((bAnd (a0 - (bAnd (bUsh a0 1) 1431655765)) 858993459) + (bAnd (bUsh (a0 - (bAnd (bUsh a0 1) 1431655765)) 2) 858993459)) 4)) 252645135))]) (pc' := 34) dJ6_bitCount_0f7a4_33 rfl rfl (by decide) [0] rfl ?_
  refine j_iload_n (i := 0) (pc' := 35) dJ6_bitCount_0f7a4_34 rfl rfl 0 rfl ?_
  refine j_iload_n (i := 0) (pc' := 36) dJ6_bitCount_0f7a4_35 rfl rfl 0 rfl ?_
  refine j_bipush (pc' := 38) dJ6_bitCount_0f7a4_36 rfl (by decide +kernel) ?_
  refine j_iushr (pc' := 39) dJ6_bitCount_0f7a4_38 rfl ?_
  refine j_iadd (pc' := 40) dJ6_bitCount_0f7a4_39 rfl ?_
  obtain ⟨u3, e3, H⟩ := bs H
  have r3 := c32_R e3
  refine j_istore_n (i := 0) (lv' := [(0, vi ((bAnd (((bAnd (a0 - (bAnd (bUsh a0 1) 1431655765)) 858993459) + (bAnd (bUsh (a0 - (bAnd (bUsh a0 1) 1431655765)) 2) 858993459)) + (bUsh ((bAnd (a0 - (bAnd (bUsh a0 1) 1431655765)) 858993459) + (bAnd (bUsh (a0 - (bAnd (bUsh a0 1) 1431655765)) 2) 858993459)) 4)) 252645135) + (bUsh (bAnd (((bAnd (a0 - (bAnd (bUsh a0 1) 1431655765)) 858993459) + (bAnd (bUsh (a0 - (bAnd (bUsh a0 1) 1431655765)) 2) 858993459)) + (bUsh ((bAnd (a0 - (bAnd (bUsh a0 1) 1431655765)) 858993459) + (bAnd (bUsh (a0 - (bAnd (bUsh a0 1) 1431655765)) 2) 858993459)) 4)) 252645135) 8)))]) (pc' := 41) dJ6_bitCount_0f7a4_40 rfl rfl (by decide) [0] rfl ?_
  refine j_iload_n (i := 0) (pc' := 42) dJ6_bitCount_0f7a4_41 rfl rfl 0 rfl ?_
  refine j_iload_n (i := 0) (pc' := 43) dJ6_bitCount_0f7a4_42 rfl rfl 0 rfl ?_
  refine j_bipush (pc' := 45) dJ6_bitCount_0f7a4_43 rfl (by decide +kernel) ?_
  refine j_iushr (pc' := 46) dJ6_bitCount_0f7a4_45 rfl ?_
  refine j_iadd (pc' := 47) dJ6_bitCount_0f7a4_46 rfl ?_
  obtain ⟨u4, e4, H⟩ := bs H
  have r4 := c32_R e4
  refine j_istore_n (i := 0) (lv' := [(0, vi (((bAnd (((bAnd (a0 - (bAnd (bUsh a0 1) 1431655765)) 858993459) + (bAnd (bUsh (a0 - (bAnd (bUsh a0 1) 1431655765)) 2) 858993459)) + (bUsh ((bAnd (a0 - (bAnd (bUsh a0 1) 1431655765)) 858993459) + (bAnd (bUsh (a0 - (bAnd (bUsh a0 1) 1431655765)) 2) 858993459)) 4)) 252645135) + (bUsh (bAnd (((bAnd (a0 - (bAnd (bUsh a0 1) 1431655765)) 858993459) + (bAnd (bUsh (a0 - (bAnd (bUsh a0 1) 1431655765)) 2) 858993459)) + (bUsh ((bAnd (a0 - (bAnd (bUsh a0 1) 1431655765)) 858993459) + (bAnd (bUsh (a0 - (bAnd (bUsh a0 1) 1431655765)) 2) 858993459)) 4)) 252645135) 8)) + (bUsh ((bAnd (((bAnd (a0 - (bAnd (bUsh a0 1) 1431655765)) 858993459) + (bAnd (bUsh (a0 - (bAnd (bUsh a0 1) 1431655765)) 2) 858993459)) + (bUsh ((bAnd (a0 - (bAnd (bUsh a0 1) 1431655765)) 858993459) + (bAnd (bUsh (a0 - (bAnd (bUsh a0 1) 1431655765)) 2) 858993459)) 4)) 252645135) + (bUsh (bAnd (((bAnd (a0 - (bAnd (bUsh a0 1) 1431655765)) 858993459) + (bAnd (bUsh (a0 - (bAnd (bUsh a0 1) 1431655765)) 2) 858993459)) + (bUsh ((bAnd (a0 - (bAnd (bUsh a0 1) 1431655765)) 858993459) + (bAnd (bUsh (a0 - (bAnd (bUsh a0 1) 1431655765)) 2) 858993459)) 4)) 252645135) 8)) 16)))]) (pc' := 48) dJ6_bitCount_0f7a4_47 rfl rfl (by decide) [0] rfl ?_
  refine j_iload_n (i := 0) (pc' := 49) dJ6_bitCount_0f7a4_48 rfl rfl 0 rfl ?_
  refine j_bipush (pc' := 51) dJ6_bitCount_0f7a4_49 rfl (by decide +kernel) ?_
  refine j_iand (pc' := 52) dJ6_bitCount_0f7a4_51 rfl ?_
  obtain rfl := Option.some.inj H
  exact j_iret dJ6_bitCount_0f7a4_52 (R32_to _) ⟨rfl, rfl⟩
-- X2_costOfTaking
noncomputable def fX2_costOfTaking_135 (x3 : Int) (h : Hp) : Option (Int × Hp) :=
  some (x3, h)
theorem tX2_costOfTaking_135 {L : Nat} {xs : Nat → Int32} {l : Launch} {res : Int × Hp} (x3 : Int) (h : Hp) (rx3 : R64 x3) (H : fX2_costOfTaking_135 x3 h = some res) : J L xs l RX2 cX2_costOfTaking 9 false 2 (QL res) 0 0 135 [(3, vl x3)] [] h := by
  unfold fX2_costOfTaking_135 at H
  refine j_lload_n (i := 3) (pc' := 136) dX2_costOfTaking_135 rfl rfl 0 rfl ?_
  obtain rfl := Option.some.inj H
  exact j_lret dX2_costOfTaking_136 rx3 ⟨rfl, rfl⟩
noncomputable def fX2_costOfTaking_129 (k5 : Nat → Int → Int → Int → Int → Hp → Option (Int × Hp)) (x0 : Nat) (x1 : Int) (x2 : Int) (x3 : Int) (x5 : Int) (h : Hp) : Option (Int × Hp) :=
  (c32 (x5 + 1)).bind fun _ => k5 x0 x1 x2 x3 (x5 + 1) h
theorem tX2_costOfTaking_129 {L : Nat} {xs : Nat → Int32} {l : Launch} {res : Int × Hp} (k5 : Nat → Int → Int → Int → Int → Hp → Option (Int × Hp)) (hk5 : ∀ (x0 : Nat) (x1 : Int) (x2 : Int) (x3 : Int) (x5 : Int) (h : Hp), R32 x1 → R32 x2 → R64 x3 → R32 x5 → k5 x0 x1 x2 x3 x5 h = some res → J L xs l RX2 cX2_costOfTaking 9 false 2 (QL res) 0 0 5 [(0, vr x0), (1, vi x1), (2, vi x2), (3, vl x3), (5, vi x5)] [] h) (x0 : Nat) (x1 : Int) (x2 : Int) (x3 : Int) (x5 : Int) (h : Hp) (rx1 : R32 x1) (rx2 : R32 x2) (rx3 : R64 x3) (rx5 : R32 x5) (H : fX2_costOfTaking_129 k5 x0 x1 x2 x3 x5 h = some res) : J L xs l RX2 cX2_costOfTaking 9 false 2 (QL res) 0 0 129 [(0, vr x0), (1, vi x1), (2, vi x2), (3, vl x3), (5, vi x5)] [] h := by
  unfold fX2_costOfTaking_129 at H
  obtain ⟨u1, e1, H⟩ := bs H
  have r1 := c32_R e1
  refine j_iinc (k0 := 4) (lv' := [(0, vr x0), (1, vi x1), (2, vi x2), (3, vl x3), (5, vi (x5 + 1))]) (pc' := 132) dX2_costOfTaking_129 rfl rfl (by decide) [1, 2, 3, 4, 0] rfl ?_
  refine j_goto (tgt := 5) dX2_costOfTaking_132 (by decide) ?_
  exact hk5 x0 x1 x2 x3 (x5 + 1) h rx1 rx2 rx3 r1 H
noncomputable def fX2_costOfTaking_121 (k5 : Nat → Int → Int → Int → Int → Hp → Option (Int × Hp)) (k17 : Nat → Int → Int → Int → Int → Int → Hp → Option (Int × Hp)) (x0 : Nat) (x1 : Int) (x2 : Int) (x5 : Int) (x6 : Int) (s0 : Int) (s1 : Int) (h : Hp) : Option (Int × Hp) :=
  (c64 (s1 + s0)).bind fun _ => (c32 (x6 + 1)).bind fun _ => k17 x0 x1 x2 (s1 + s0) x5 (x6 + 1) h
theorem tX2_costOfTaking_121 {L : Nat} {xs : Nat → Int32} {l : Launch} {res : Int × Hp} (k5 : Nat → Int → Int → Int → Int → Hp → Option (Int × Hp)) (k17 : Nat → Int → Int → Int → Int → Int → Hp → Option (Int × Hp)) (hk5 : ∀ (x0 : Nat) (x1 : Int) (x2 : Int) (x3 : Int) (x5 : Int) (h : Hp), R32 x1 → R32 x2 → R64 x3 → R32 x5 → k5 x0 x1 x2 x3 x5 h = some res → J L xs l RX2 cX2_costOfTaking 9 false 2 (QL res) 0 0 5 [(0, vr x0), (1, vi x1), (2, vi x2), (3, vl x3), (5, vi x5)] [] h) (hk17 : ∀ (x0 : Nat) (x1 : Int) (x2 : Int) (x3 : Int) (x5 : Int) (x6 : Int) (h : Hp), R32 x1 → R32 x2 → R64 x3 → R32 x5 → R32 x6 → k17 x0 x1 x2 x3 x5 x6 h = some res → J L xs l RX2 cX2_costOfTaking 9 false 2 (QL res) 0 0 17 [(0, vr x0), (1, vi x1), (2, vi x2), (3, vl x3), (5, vi x5), (6, vi x6)] [] h) (x0 : Nat) (x1 : Int) (x2 : Int) (x5 : Int) (x6 : Int) (s0 : Int) (s1 : Int) (h : Hp) (rx1 : R32 x1) (rx2 : R32 x2) (rx5 : R32 x5) (rx6 : R32 x6) (rs0 : R64 s0) (rs1 : R64 s1) (H : fX2_costOfTaking_121 k5 k17 x0 x1 x2 x5 x6 s0 s1 h = some res) : J L xs l RX2 cX2_costOfTaking 9 false 2 (QL res) 0 0 121 [(0, vr x0), (1, vi x1), (2, vi x2), (5, vi x5), (6, vi x6)] [vl s0, vl s1] h := by
  unfold fX2_costOfTaking_121 at H
  refine j_ladd (pc' := 122) dX2_costOfTaking_121 rfl ?_
  obtain ⟨u1, e1, H⟩ := bs H
  have r1 := c64_R e1
  refine j_lstore_n (i := 3) (lv' := [(0, vr x0), (1, vi x1), (2, vi x2), (3, vl (s1 + s0)), (5, vi x5), (6, vi x6)]) (pc' := 123) dX2_costOfTaking_122 rfl rfl (by decide) [1, 2, 3, 0, 4, 5] rfl ?_
  obtain ⟨u2, e2, H⟩ := bs H
  have r2 := c32_R e2
  refine j_iinc (k0 := 5) (lv' := [(0, vr x0), (1, vi x1), (2, vi x2), (3, vl (s1 + s0)), (5, vi x5), (6, vi (x6 + 1))]) (pc' := 126) dX2_costOfTaking_123 rfl rfl (by decide) [1, 2, 3, 4, 5, 0] rfl ?_
  refine j_goto (tgt := 17) dX2_costOfTaking_126 (by decide) ?_
  exact hk17 x0 x1 x2 (s1 + s0) x5 (x6 + 1) h rx1 rx2 r1 rx5 r2 H
noncomputable def fX2_costOfTaking_108 (k5 : Nat → Int → Int → Int → Int → Hp → Option (Int × Hp)) (k17 : Nat → Int → Int → Int → Int → Int → Hp → Option (Int × Hp)) (x0 : Nat) (x1 : Int) (x2 : Int) (x5 : Int) (x6 : Int) (s0 : Int) (h : Hp) : Option (Int × Hp) :=
  (cob h 6 x0).bind fun _ => (fX7_weightOf x0 x5 x6 h).bind fun p2 => fX2_costOfTaking_121 k5 k17 x0 x1 x2 x5 x6 p2.1 s0 p2.2
theorem tX2_costOfTaking_108 {L : Nat} {xs : Nat → Int32} {l : Launch} {res : Int × Hp} (k5 : Nat → Int → Int → Int → Int → Hp → Option (Int × Hp)) (k17 : Nat → Int → Int → Int → Int → Int → Hp → Option (Int × Hp)) (hk5 : ∀ (x0 : Nat) (x1 : Int) (x2 : Int) (x3 : Int) (x5 : Int) (h : Hp), R32 x1 → R32 x2 → R64 x3 → R32 x5 → k5 x0 x1 x2 x3 x5 h = some res → J L xs l RX2 cX2_costOfTaking 9 false 2 (QL res) 0 0 5 [(0, vr x0), (1, vi x1), (2, vi x2), (3, vl x3), (5, vi x5)] [] h) (hk17 : ∀ (x0 : Nat) (x1 : Int) (x2 : Int) (x3 : Int) (x5 : Int) (x6 : Int) (h : Hp), R32 x1 → R32 x2 → R64 x3 → R32 x5 → R32 x6 → k17 x0 x1 x2 x3 x5 x6 h = some res → J L xs l RX2 cX2_costOfTaking 9 false 2 (QL res) 0 0 17 [(0, vr x0), (1, vi x1), (2, vi x2), (3, vl x3), (5, vi x5), (6, vi x6)] [] h) (x0 : Nat) (x1 : Int) (x2 : Int) (x5 : Int) (x6 : Int) (s0 : Int) (h : Hp) (rx1 : R32 x1) (rx2 : R32 x2) (rx5 : R32 x5) (rx6 : R32 x6) (rs0 : R64 s0) (H : fX2_costOfTaking_108 k5 k17 x0 x1 x2 x5 x6 s0 h = some res) : J L xs l RX2 cX2_costOfTaking 9 false 2 (QL res) 0 0 108 [(0, vr x0), (1, vi x1), (2, vi x2), (5, vi x5), (6, vi x6)] [vl s0] h := by
  unfold fX2_costOfTaking_108 at H
  refine j_aload_n (i := 0) (pc' := 109) dX2_costOfTaking_108 rfl rfl 0 rfl ?_
  refine j_iload (pc' := 111) dX2_costOfTaking_109 rfl 3 rfl ?_
  refine j_iload (pc' := 113) dX2_costOfTaking_111 rfl 4 rfl ?_
  obtain ⟨u1, e1, H⟩ := bs H
  obtain ⟨p2, e2, H⟩ := bs H
  refine j_cVi (y := yX7_weightOf) (dY := 1) (vs := [vi x5, vi x6]) (st := [vl s0]) (q := x0) (pc' := 116) dX2_costOfTaking_113 rfl ymX7_weightOf yvX7_weightOf ml_X2_77 (by decide) rfl (Nat.le_of_ble_eq_true rfl) (Nat.le_of_ble_eq_true rfl) e1 (tX7_weightOf x0 x5 x6 h rx5 rx6 e2) (fun r2 z2 => ?_)
  refine j_i2l (pc' := 117) dX2_costOfTaking_116 rfl r2 ?_
  refine j_goto (tgt := 121) dX2_costOfTaking_117 (by decide) ?_
  exact tX2_costOfTaking_121 _ _ hk5 hk17 x0 x1 x2 x5 x6 p2.1 s0 p2.2 rx1 rx2 rx5 rx6 (R32_l r2) rs0 H
noncomputable def fX2_costOfTaking_95 (k5 : Nat → Int → Int → Int → Int → Hp → Option (Int × Hp)) (k17 : Nat → Int → Int → Int → Int → Int → Hp → Option (Int × Hp)) (x0 : Nat) (x1 : Int) (x2 : Int) (x3 : Int) (x5 : Int) (x6 : Int) (x7 : Int) (s0 : Int) (h : Hp) : Option (Int × Hp) :=
  if x7 = 0 then (if s0 = 0 then (fX2_costOfTaking_121 k5 k17 x0 x1 x2 x5 x6 0 x3 h) else (fX2_costOfTaking_108 k5 k17 x0 x1 x2 x5 x6 x3 h)) else (fX2_costOfTaking_108 k5 k17 x0 x1 x2 x5 x6 x3 h)
theorem tX2_costOfTaking_95 {L : Nat} {xs : Nat → Int32} {l : Launch} {res : Int × Hp} (k5 : Nat → Int → Int → Int → Int → Hp → Option (Int × Hp)) (k17 : Nat → Int → Int → Int → Int → Int → Hp → Option (Int × Hp)) (hk5 : ∀ (x0 : Nat) (x1 : Int) (x2 : Int) (x3 : Int) (x5 : Int) (h : Hp), R32 x1 → R32 x2 → R64 x3 → R32 x5 → k5 x0 x1 x2 x3 x5 h = some res → J L xs l RX2 cX2_costOfTaking 9 false 2 (QL res) 0 0 5 [(0, vr x0), (1, vi x1), (2, vi x2), (3, vl x3), (5, vi x5)] [] h) (hk17 : ∀ (x0 : Nat) (x1 : Int) (x2 : Int) (x3 : Int) (x5 : Int) (x6 : Int) (h : Hp), R32 x1 → R32 x2 → R64 x3 → R32 x5 → R32 x6 → k17 x0 x1 x2 x3 x5 x6 h = some res → J L xs l RX2 cX2_costOfTaking 9 false 2 (QL res) 0 0 17 [(0, vr x0), (1, vi x1), (2, vi x2), (3, vl x3), (5, vi x5), (6, vi x6)] [] h) (x0 : Nat) (x1 : Int) (x2 : Int) (x3 : Int) (x5 : Int) (x6 : Int) (x7 : Int) (s0 : Int) (h : Hp) (rx1 : R32 x1) (rx2 : R32 x2) (rx3 : R64 x3) (rx5 : R32 x5) (rx6 : R32 x6) (rx7 : R32 x7) (rs0 : R32 s0) (H : fX2_costOfTaking_95 k5 k17 x0 x1 x2 x3 x5 x6 x7 s0 h = some res) : J L xs l RX2 cX2_costOfTaking 9 false 2 (QL res) 0 0 95 [(0, vr x0), (1, vi x1), (2, vi x2), (3, vl x3), (5, vi x5), (6, vi x6), (7, vi x7)] [vi s0] h := by
  unfold fX2_costOfTaking_95 at H
  refine j_istore (lv' := [(0, vr x0), (1, vi x1), (2, vi x2), (3, vl x3), (5, vi x5), (6, vi x6), (7, vi x7), (8, vi s0)]) (pc' := 97) dX2_costOfTaking_95 rfl (by decide) [1, 2, 3, 4, 5, 6, 7, 0] rfl ?_
  refine j_lload_n (i := 3) (pc' := 98) dX2_costOfTaking_97 rfl rfl 3 rfl ?_
  refine j_iload (pc' := 100) dX2_costOfTaking_98 rfl 6 rfl ?_
  refine j_if_ne (tgt := 108) (pc' := 103) dX2_costOfTaking_100 (by decide) rfl rx7 (fun c1 => ?_) (fun c1 => ?_)
  · rw [if_neg c1] at H
    refine j_sub (lv' := [(0, vr x0), (1, vi x1), (2, vi x2), (5, vi x5), (6, vi x6)]) [0, 1, 2, 4, 5] rfl ?_
    exact tX2_costOfTaking_108 _ _ hk5 hk17 x0 x1 x2 x5 x6 x3 h rx1 rx2 rx5 rx6 rx3 H
  · rw [if_pos c1] at H
    refine j_iload (pc' := 105) dX2_costOfTaking_103 rfl 7 rfl ?_
    refine j_if_eq (tgt := 120) (pc' := 108) dX2_costOfTaking_105 (by decide) rfl rs0 (fun c2 => ?_) (fun c2 => ?_)
    · rw [if_pos c2] at H
      refine j_lconst (z := 0) (pc' := 121) dX2_costOfTaking_120 rfl rfl ?_
      refine j_sub (lv' := [(0, vr x0), (1, vi x1), (2, vi x2), (5, vi x5), (6, vi x6)]) [0, 1, 2, 4, 5] rfl ?_
      exact tX2_costOfTaking_121 _ _ hk5 hk17 x0 x1 x2 x5 x6 0 x3 h rx1 rx2 rx5 rx6 ⟨by decide, by decide⟩ rx3 H
    · rw [if_neg c2] at H
      refine j_sub (lv' := [(0, vr x0), (1, vi x1), (2, vi x2), (5, vi x5), (6, vi x6)]) [0, 1, 2, 4, 5] rfl ?_
      exact tX2_costOfTaking_108 _ _ hk5 hk17 x0 x1 x2 x5 x6 x3 h rx1 rx2 rx5 rx6 rx3 H
noncomputable def fX2_costOfTaking_94 (k5 : Nat → Int → Int → Int → Int → Hp → Option (Int × Hp)) (k17 : Nat → Int → Int → Int → Int → Int → Hp → Option (Int × Hp)) (x0 : Nat) (x1 : Int) (x2 : Int) (x3 : Int) (x5 : Int) (x6 : Int) (x7 : Int) (h : Hp) : Option (Int × Hp) :=
  fX2_costOfTaking_95 k5 k17 x0 x1 x2 x3 x5 x6 x7 0 h
theorem tX2_costOfTaking_94 {L : Nat} {xs : Nat → Int32} {l : Launch} {res : Int × Hp} (k5 : Nat → Int → Int → Int → Int → Hp → Option (Int × Hp)) (k17 : Nat → Int → Int → Int → Int → Int → Hp → Option (Int × Hp)) (hk5 : ∀ (x0 : Nat) (x1 : Int) (x2 : Int) (x3 : Int) (x5 : Int) (h : Hp), R32 x1 → R32 x2 → R64 x3 → R32 x5 → k5 x0 x1 x2 x3 x5 h = some res → J L xs l RX2 cX2_costOfTaking 9 false 2 (QL res) 0 0 5 [(0, vr x0), (1, vi x1), (2, vi x2), (3, vl x3), (5, vi x5)] [] h) (hk17 : ∀ (x0 : Nat) (x1 : Int) (x2 : Int) (x3 : Int) (x5 : Int) (x6 : Int) (h : Hp), R32 x1 → R32 x2 → R64 x3 → R32 x5 → R32 x6 → k17 x0 x1 x2 x3 x5 x6 h = some res → J L xs l RX2 cX2_costOfTaking 9 false 2 (QL res) 0 0 17 [(0, vr x0), (1, vi x1), (2, vi x2), (3, vl x3), (5, vi x5), (6, vi x6)] [] h) (x0 : Nat) (x1 : Int) (x2 : Int) (x3 : Int) (x5 : Int) (x6 : Int) (x7 : Int) (h : Hp) (rx1 : R32 x1) (rx2 : R32 x2) (rx3 : R64 x3) (rx5 : R32 x5) (rx6 : R32 x6) (rx7 : R32 x7) (H : fX2_costOfTaking_94 k5 k17 x0 x1 x2 x3 x5 x6 x7 h = some res) : J L xs l RX2 cX2_costOfTaking 9 false 2 (QL res) 0 0 94 [(0, vr x0), (1, vi x1), (2, vi x2), (3, vl x3), (5, vi x5), (6, vi x6), (7, vi x7)] [] h := by
  unfold fX2_costOfTaking_94 at H
  refine j_iconst (pc' := 95) dX2_costOfTaking_94 rfl ?_
  exact tX2_costOfTaking_95 _ _ hk5 hk17 x0 x1 x2 x3 x5 x6 x7 0 h rx1 rx2 rx3 rx5 rx6 rx7 ⟨by decide, by decide⟩ H
noncomputable def fX2_costOfTaking_67 (k5 : Nat → Int → Int → Int → Int → Hp → Option (Int × Hp)) (k17 : Nat → Int → Int → Int → Int → Int → Hp → Option (Int × Hp)) (x0 : Nat) (x1 : Int) (x2 : Int) (x3 : Int) (x5 : Int) (x6 : Int) (s0 : Int) (h : Hp) : Option (Int × Hp) :=
  (fX0_has x2 x6 h).bind fun p1 => if p1.1 = 0 then (fX2_costOfTaking_94 k5 k17 x0 x1 x2 x3 x5 x6 s0 p1.2) else ((cob p1.2 6 x0).bind fun _ => (fX7_likeOf x0 x5 x6 p1.2).bind fun p4 => if p4.1 = 1 then (fX2_costOfTaking_95 k5 k17 x0 x1 x2 x3 x5 x6 s0 1 p4.2) else (fX2_costOfTaking_94 k5 k17 x0 x1 x2 x3 x5 x6 s0 p4.2))
theorem tX2_costOfTaking_67 {L : Nat} {xs : Nat → Int32} {l : Launch} {res : Int × Hp} (k5 : Nat → Int → Int → Int → Int → Hp → Option (Int × Hp)) (k17 : Nat → Int → Int → Int → Int → Int → Hp → Option (Int × Hp)) (hk5 : ∀ (x0 : Nat) (x1 : Int) (x2 : Int) (x3 : Int) (x5 : Int) (h : Hp), R32 x1 → R32 x2 → R64 x3 → R32 x5 → k5 x0 x1 x2 x3 x5 h = some res → J L xs l RX2 cX2_costOfTaking 9 false 2 (QL res) 0 0 5 [(0, vr x0), (1, vi x1), (2, vi x2), (3, vl x3), (5, vi x5)] [] h) (hk17 : ∀ (x0 : Nat) (x1 : Int) (x2 : Int) (x3 : Int) (x5 : Int) (x6 : Int) (h : Hp), R32 x1 → R32 x2 → R64 x3 → R32 x5 → R32 x6 → k17 x0 x1 x2 x3 x5 x6 h = some res → J L xs l RX2 cX2_costOfTaking 9 false 2 (QL res) 0 0 17 [(0, vr x0), (1, vi x1), (2, vi x2), (3, vl x3), (5, vi x5), (6, vi x6)] [] h) (x0 : Nat) (x1 : Int) (x2 : Int) (x3 : Int) (x5 : Int) (x6 : Int) (s0 : Int) (h : Hp) (rx1 : R32 x1) (rx2 : R32 x2) (rx3 : R64 x3) (rx5 : R32 x5) (rx6 : R32 x6) (rs0 : R32 s0) (H : fX2_costOfTaking_67 k5 k17 x0 x1 x2 x3 x5 x6 s0 h = some res) : J L xs l RX2 cX2_costOfTaking 9 false 2 (QL res) 0 0 67 [(0, vr x0), (1, vi x1), (2, vi x2), (3, vl x3), (5, vi x5), (6, vi x6)] [vi s0] h := by
  unfold fX2_costOfTaking_67 at H
  refine j_istore (lv' := [(0, vr x0), (1, vi x1), (2, vi x2), (3, vl x3), (5, vi x5), (6, vi x6), (7, vi s0)]) (pc' := 69) dX2_costOfTaking_67 rfl (by decide) [1, 2, 3, 4, 5, 6, 0] rfl ?_
  refine j_iload_n (i := 2) (pc' := 70) dX2_costOfTaking_69 rfl rfl 2 rfl ?_
  refine j_iload (pc' := 72) dX2_costOfTaking_70 rfl 5 rfl ?_
  obtain ⟨p1, e1, H⟩ := bs H
  refine j_cSb (y := yX0_has) (dY := 1) (vs := [vi x2, vi x6]) (st := []) (pc' := 75) dX2_costOfTaking_72 rfl ymX0_has ysX0_has ml_X2_30 (by decide) rfl (Nat.le_of_ble_eq_true rfl) (Nat.le_of_ble_eq_true rfl) (tX0_has x2 x6 h rx2 rx6 e1) (fun r1 b1 z1 => ?_)
  refine j_if_eq (tgt := 94) (pc' := 78) dX2_costOfTaking_75 (by decide) rfl r1 (fun c2 => ?_) (fun c2 => ?_)
  · rw [if_pos c2] at H
    exact tX2_costOfTaking_94 _ _ hk5 hk17 x0 x1 x2 x3 x5 x6 s0 p1.2 rx1 rx2 rx3 rx5 rx6 rs0 H
  · rw [if_neg c2] at H
    refine j_aload_n (i := 0) (pc' := 79) dX2_costOfTaking_78 rfl rfl 0 rfl ?_
    refine j_iload (pc' := 81) dX2_costOfTaking_79 rfl 4 rfl ?_
    refine j_iload (pc' := 83) dX2_costOfTaking_81 rfl 5 rfl ?_
    obtain ⟨u3, e3, H⟩ := bs H
    obtain ⟨p4, e4, H⟩ := bs H
    refine j_cVi (y := yX7_likeOf) (dY := 1) (vs := [vi x5, vi x6]) (st := []) (q := x0) (pc' := 86) dX2_costOfTaking_83 rfl ymX7_likeOf yvX7_likeOf ml_X2_74 (by decide) rfl (Nat.le_of_ble_eq_true rfl) (Nat.le_of_ble_eq_true rfl) e3 (tX7_likeOf x0 x5 x6 p1.2 rx5 rx6 e4) (fun r4 z4 => ?_)
    refine j_iconst (pc' := 87) dX2_costOfTaking_86 rfl ?_
    refine j_icmp_ne (tgt := 94) (pc' := 90) dX2_costOfTaking_87 (by decide) rfl r4 ⟨by decide, by decide⟩ (fun c5 => ?_) (fun c5 => ?_)
    · rw [if_neg c5] at H
      exact tX2_costOfTaking_94 _ _ hk5 hk17 x0 x1 x2 x3 x5 x6 s0 p4.2 rx1 rx2 rx3 rx5 rx6 rs0 H
    · rw [if_pos c5] at H
      refine j_iconst (pc' := 91) dX2_costOfTaking_90 rfl ?_
      refine j_goto (tgt := 95) dX2_costOfTaking_91 (by decide) ?_
      exact tX2_costOfTaking_95 _ _ hk5 hk17 x0 x1 x2 x3 x5 x6 s0 1 p4.2 rx1 rx2 rx3 rx5 rx6 rs0 ⟨by decide, by decide⟩ H
noncomputable def fX2_costOfTaking_66 (k5 : Nat → Int → Int → Int → Int → Hp → Option (Int × Hp)) (k17 : Nat → Int → Int → Int → Int → Int → Hp → Option (Int × Hp)) (x0 : Nat) (x1 : Int) (x2 : Int) (x3 : Int) (x5 : Int) (x6 : Int) (h : Hp) : Option (Int × Hp) :=
  fX2_costOfTaking_67 k5 k17 x0 x1 x2 x3 x5 x6 0 h
theorem tX2_costOfTaking_66 {L : Nat} {xs : Nat → Int32} {l : Launch} {res : Int × Hp} (k5 : Nat → Int → Int → Int → Int → Hp → Option (Int × Hp)) (k17 : Nat → Int → Int → Int → Int → Int → Hp → Option (Int × Hp)) (hk5 : ∀ (x0 : Nat) (x1 : Int) (x2 : Int) (x3 : Int) (x5 : Int) (h : Hp), R32 x1 → R32 x2 → R64 x3 → R32 x5 → k5 x0 x1 x2 x3 x5 h = some res → J L xs l RX2 cX2_costOfTaking 9 false 2 (QL res) 0 0 5 [(0, vr x0), (1, vi x1), (2, vi x2), (3, vl x3), (5, vi x5)] [] h) (hk17 : ∀ (x0 : Nat) (x1 : Int) (x2 : Int) (x3 : Int) (x5 : Int) (x6 : Int) (h : Hp), R32 x1 → R32 x2 → R64 x3 → R32 x5 → R32 x6 → k17 x0 x1 x2 x3 x5 x6 h = some res → J L xs l RX2 cX2_costOfTaking 9 false 2 (QL res) 0 0 17 [(0, vr x0), (1, vi x1), (2, vi x2), (3, vl x3), (5, vi x5), (6, vi x6)] [] h) (x0 : Nat) (x1 : Int) (x2 : Int) (x3 : Int) (x5 : Int) (x6 : Int) (h : Hp) (rx1 : R32 x1) (rx2 : R32 x2) (rx3 : R64 x3) (rx5 : R32 x5) (rx6 : R32 x6) (H : fX2_costOfTaking_66 k5 k17 x0 x1 x2 x3 x5 x6 h = some res) : J L xs l RX2 cX2_costOfTaking 9 false 2 (QL res) 0 0 66 [(0, vr x0), (1, vi x1), (2, vi x2), (3, vl x3), (5, vi x5), (6, vi x6)] [] h := by
  unfold fX2_costOfTaking_66 at H
  refine j_iconst (pc' := 67) dX2_costOfTaking_66 rfl ?_
  exact tX2_costOfTaking_67 _ _ hk5 hk17 x0 x1 x2 x3 x5 x6 0 h rx1 rx2 rx3 rx5 rx6 ⟨by decide, by decide⟩ H
noncomputable def fX2_costOfTaking_17 (k5 : Nat → Int → Int → Int → Int → Hp → Option (Int × Hp)) : Nat → Nat → Int → Int → Int → Int → Int → Hp → Option (Int × Hp)
  | 0, _, _, _, _, _, _, _ => none
  | n + 1, x0, x1, x2, x3, x5, x6, h => (getI h 6 x0 0).bind fun v1 => if v1 ≤ x6 then (fX2_costOfTaking_129 k5 x0 x1 x2 x3 x5 h) else ((fX0_has x1 x5 h).bind fun p3 => if p3.1 = 0 then (fX2_costOfTaking_129 k5 x0 x1 x2 x3 x5 p3.2) else (if x5 ≤ x6 then (fX2_costOfTaking_66 k5 (fX2_costOfTaking_17 k5 n) x0 x1 x2 x3 x5 x6 p3.2) else ((fX0_has x1 x6 p3.2).bind fun p6 => if p6.1 = 0 then (fX2_costOfTaking_66 k5 (fX2_costOfTaking_17 k5 n) x0 x1 x2 x3 x5 x6 p6.2) else ((cob p6.2 6 x0).bind fun _ => (fX7_likeOf x0 x5 x6 p6.2).bind fun p9 => if p9.1 = 0 then (fX2_costOfTaking_67 k5 (fX2_costOfTaking_17 k5 n) x0 x1 x2 x3 x5 x6 1 p9.2) else (fX2_costOfTaking_66 k5 (fX2_costOfTaking_17 k5 n) x0 x1 x2 x3 x5 x6 p9.2)))))
theorem tX2_costOfTaking_17 {L : Nat} {xs : Nat → Int32} {l : Launch} {res : Int × Hp} (k5 : Nat → Int → Int → Int → Int → Hp → Option (Int × Hp)) (hk5 : ∀ (x0 : Nat) (x1 : Int) (x2 : Int) (x3 : Int) (x5 : Int) (h : Hp), R32 x1 → R32 x2 → R64 x3 → R32 x5 → k5 x0 x1 x2 x3 x5 h = some res → J L xs l RX2 cX2_costOfTaking 9 false 2 (QL res) 0 0 5 [(0, vr x0), (1, vi x1), (2, vi x2), (3, vl x3), (5, vi x5)] [] h) : ∀ (n : Nat) (x0 : Nat) (x1 : Int) (x2 : Int) (x3 : Int) (x5 : Int) (x6 : Int) (h : Hp), R32 x1 → R32 x2 → R64 x3 → R32 x5 → R32 x6 → fX2_costOfTaking_17 k5 n x0 x1 x2 x3 x5 x6 h = some res → J L xs l RX2 cX2_costOfTaking 9 false 2 (QL res) 0 0 17 [(0, vr x0), (1, vi x1), (2, vi x2), (3, vl x3), (5, vi x5), (6, vi x6)] [] h := by
  intro n
  induction n with
  | zero => intro x0 x1 x2 x3 x5 x6 h rx1 rx2 rx3 rx5 rx6 H; cases H
  | succ n ih =>
    intro x0 x1 x2 x3 x5 x6 h rx1 rx2 rx3 rx5 rx6 H
    rw [fX2_costOfTaking_17] at H
    refine j_iload (pc' := 19) dX2_costOfTaking_17 rfl 5 rfl ?_
    refine j_aload_n (i := 0) (pc' := 20) dX2_costOfTaking_19 rfl rfl 0 rfl ?_
    obtain ⟨v1, e1, H⟩ := bs H
    refine j_getI (pc' := 23) dX2_costOfTaking_20 rfl fl_X2_26 e1 (fun r1 => ?_)
    refine j_icmp_ge (tgt := 129) (pc' := 26) dX2_costOfTaking_23 (by decide) rfl rx6 r1 (fun c2 => ?_) (fun c2 => ?_)
    · rw [if_pos c2] at H
      refine j_sub (lv' := [(0, vr x0), (1, vi x1), (2, vi x2), (3, vl x3), (5, vi x5)]) [0, 1, 2, 3, 4] rfl ?_
      exact tX2_costOfTaking_129 _ hk5 x0 x1 x2 x3 x5 h rx1 rx2 rx3 rx5 H
    · rw [if_neg c2] at H
      refine j_iload_n (i := 1) (pc' := 27) dX2_costOfTaking_26 rfl rfl 1 rfl ?_
      refine j_iload (pc' := 29) dX2_costOfTaking_27 rfl 4 rfl ?_
      obtain ⟨p3, e3, H⟩ := bs H
      refine j_cSb (y := yX0_has) (dY := 1) (vs := [vi x1, vi x5]) (st := []) (pc' := 32) dX2_costOfTaking_29 rfl ymX0_has ysX0_has ml_X2_30 (by decide) rfl (Nat.le_of_ble_eq_true rfl) (Nat.le_of_ble_eq_true rfl) (tX0_has x1 x5 h rx1 rx5 e3) (fun r3 b3 z3 => ?_)
      refine j_if_eq (tgt := 129) (pc' := 35) dX2_costOfTaking_32 (by decide) rfl r3 (fun c4 => ?_) (fun c4 => ?_)
      · rw [if_pos c4] at H
        refine j_sub (lv' := [(0, vr x0), (1, vi x1), (2, vi x2), (3, vl x3), (5, vi x5)]) [0, 1, 2, 3, 4] rfl ?_
        exact tX2_costOfTaking_129 _ hk5 x0 x1 x2 x3 x5 p3.2 rx1 rx2 rx3 rx5 H
      · rw [if_neg c4] at H
        refine j_iload (pc' := 37) dX2_costOfTaking_35 rfl 5 rfl ?_
        refine j_iload (pc' := 39) dX2_costOfTaking_37 rfl 4 rfl ?_
        refine j_icmp_ge (tgt := 66) (pc' := 42) dX2_costOfTaking_39 (by decide) rfl rx6 rx5 (fun c5 => ?_) (fun c5 => ?_)
        · rw [if_pos c5] at H
          exact tX2_costOfTaking_66 _ _ hk5 ih x0 x1 x2 x3 x5 x6 p3.2 rx1 rx2 rx3 rx5 rx6 H
        · rw [if_neg c5] at H
          refine j_iload_n (i := 1) (pc' := 43) dX2_costOfTaking_42 rfl rfl 1 rfl ?_
          refine j_iload (pc' := 45) dX2_costOfTaking_43 rfl 5 rfl ?_
          obtain ⟨p6, e6, H⟩ := bs H
          refine j_cSb (y := yX0_has) (dY := 1) (vs := [vi x1, vi x6]) (st := []) (pc' := 48) dX2_costOfTaking_45 rfl ymX0_has ysX0_has ml_X2_30 (by decide) rfl (Nat.le_of_ble_eq_true rfl) (Nat.le_of_ble_eq_true rfl) (tX0_has x1 x6 p3.2 rx1 rx6 e6) (fun r6 b6 z6 => ?_)
          refine j_if_eq (tgt := 66) (pc' := 51) dX2_costOfTaking_48 (by decide) rfl r6 (fun c7 => ?_) (fun c7 => ?_)
          · rw [if_pos c7] at H
            exact tX2_costOfTaking_66 _ _ hk5 ih x0 x1 x2 x3 x5 x6 p6.2 rx1 rx2 rx3 rx5 rx6 H
          · rw [if_neg c7] at H
            refine j_aload_n (i := 0) (pc' := 52) dX2_costOfTaking_51 rfl rfl 0 rfl ?_
            refine j_iload (pc' := 54) dX2_costOfTaking_52 rfl 4 rfl ?_
            refine j_iload (pc' := 56) dX2_costOfTaking_54 rfl 5 rfl ?_
            obtain ⟨u8, e8, H⟩ := bs H
            obtain ⟨p9, e9, H⟩ := bs H
            refine j_cVi (y := yX7_likeOf) (dY := 1) (vs := [vi x5, vi x6]) (st := []) (q := x0) (pc' := 59) dX2_costOfTaking_56 rfl ymX7_likeOf yvX7_likeOf ml_X2_74 (by decide) rfl (Nat.le_of_ble_eq_true rfl) (Nat.le_of_ble_eq_true rfl) e8 (tX7_likeOf x0 x5 x6 p6.2 rx5 rx6 e9) (fun r9 z9 => ?_)
            refine j_if_ne (tgt := 66) (pc' := 62) dX2_costOfTaking_59 (by decide) rfl r9 (fun c10 => ?_) (fun c10 => ?_)
            · rw [if_neg c10] at H
              exact tX2_costOfTaking_66 _ _ hk5 ih x0 x1 x2 x3 x5 x6 p9.2 rx1 rx2 rx3 rx5 rx6 H
            · rw [if_pos c10] at H
              refine j_iconst (pc' := 63) dX2_costOfTaking_62 rfl ?_
              refine j_goto (tgt := 67) dX2_costOfTaking_63 (by decide) ?_
              exact tX2_costOfTaking_67 _ _ hk5 ih x0 x1 x2 x3 x5 x6 1 p9.2 rx1 rx2 rx3 rx5 rx6 ⟨by decide, by decide⟩ H
noncomputable def fX2_costOfTaking_5 : Nat → Nat → Int → Int → Int → Int → Hp → Option (Int × Hp)
  | 0, _, _, _, _, _, _ => none
  | n + 1, x0, x1, x2, x3, x5, h => (getI h 6 x0 0).bind fun v1 => if v1 ≤ x5 then (fX2_costOfTaking_135 x3 h) else (fX2_costOfTaking_17 (fX2_costOfTaking_5 n) FU x0 x1 x2 x3 x5 0 h)
theorem tX2_costOfTaking_5 {L : Nat} {xs : Nat → Int32} {l : Launch} {res : Int × Hp} : ∀ (n : Nat) (x0 : Nat) (x1 : Int) (x2 : Int) (x3 : Int) (x5 : Int) (h : Hp), R32 x1 → R32 x2 → R64 x3 → R32 x5 → fX2_costOfTaking_5 n x0 x1 x2 x3 x5 h = some res → J L xs l RX2 cX2_costOfTaking 9 false 2 (QL res) 0 0 5 [(0, vr x0), (1, vi x1), (2, vi x2), (3, vl x3), (5, vi x5)] [] h := by
  intro n
  induction n with
  | zero => intro x0 x1 x2 x3 x5 h rx1 rx2 rx3 rx5 H; cases H
  | succ n ih =>
    intro x0 x1 x2 x3 x5 h rx1 rx2 rx3 rx5 H
    rw [fX2_costOfTaking_5] at H
    refine j_iload (pc' := 7) dX2_costOfTaking_5 rfl 4 rfl ?_
    refine j_aload_n (i := 0) (pc' := 8) dX2_costOfTaking_7 rfl rfl 0 rfl ?_
    obtain ⟨v1, e1, H⟩ := bs H
    refine j_getI (pc' := 11) dX2_costOfTaking_8 rfl fl_X2_26 e1 (fun r1 => ?_)
    refine j_icmp_ge (tgt := 135) (pc' := 14) dX2_costOfTaking_11 (by decide) rfl rx5 r1 (fun c2 => ?_) (fun c2 => ?_)
    · rw [if_pos c2] at H
      refine j_sub (lv' := [(3, vl x3)]) [3] rfl ?_
      exact tX2_costOfTaking_135   x3 h rx3 H
    · rw [if_neg c2] at H
      refine j_iconst (pc' := 15) dX2_costOfTaking_14 rfl ?_
      refine j_istore (lv' := [(0, vr x0), (1, vi x1), (2, vi x2), (3, vl x3), (5, vi x5), (6, vi 0)]) (pc' := 17) dX2_costOfTaking_15 rfl (by decide) [1, 2, 3, 4, 5, 0] rfl ?_
      exact tX2_costOfTaking_17 _ ih FU x0 x1 x2 x3 x5 0 h rx1 rx2 rx3 rx5 ⟨by decide, by decide⟩ H
noncomputable def fX2_costOfTaking (a0 : Nat) (a1 : Int) (a2 : Int) (h : Hp) : Option (Int × Hp) :=
  fX2_costOfTaking_5 FU a0 a1 a2 0 0 h
theorem tX2_costOfTaking {L : Nat} {xs : Nat → Int32} {l : Launch} {res : Int × Hp} (a0 : Nat) (a1 : Int) (a2 : Int) (h : Hp) (ra1 : R32 a1) (ra2 : R32 a2) (H : fX2_costOfTaking a0 a1 a2 h = some res) : J L xs l RX2 cX2_costOfTaking 9 false 2 (QL res) 0 0 0 (alv 0 [vr a0, vi a1, vi a2]) [] h := by
  unfold fX2_costOfTaking at H
  show J L xs l RX2 cX2_costOfTaking 9 false 2 (QL res) 0 0 0 [(0, vr a0), (1, vi a1), (2, vi a2)] [] h
  refine j_lconst (z := 0) (pc' := 1) dX2_costOfTaking_0 rfl rfl ?_
  refine j_lstore_n (i := 3) (lv' := [(0, vr a0), (1, vi a1), (2, vi a2), (3, vl 0)]) (pc' := 2) dX2_costOfTaking_1 rfl rfl (by decide) [1, 2, 3, 0] rfl ?_
  refine j_iconst (pc' := 3) dX2_costOfTaking_2 rfl ?_
  refine j_istore (lv' := [(0, vr a0), (1, vi a1), (2, vi a2), (3, vl 0), (5, vi 0)]) (pc' := 5) dX2_costOfTaking_3 rfl (by decide) [1, 2, 3, 4, 0] rfl ?_
  exact tX2_costOfTaking_5   FU a0 a1 a2 0 0 h ra1 ra2 ⟨by decide, by decide⟩ ⟨by decide, by decide⟩ H
-- X2_sumOver
noncomputable def fX2_sumOver_99 (x4 : Int) (h : Hp) : Option (Int × Hp) :=
  some (x4, h)
theorem tX2_sumOver_99 {L : Nat} {xs : Nat → Int32} {l : Launch} {res : Int × Hp} (x4 : Int) (h : Hp) (rx4 : R64 x4) (H : fX2_sumOver_99 x4 h = some res) : J L xs l RX2 cX2_sumOver 10 false 4 (QL res) 0 0 99 [(4, vl x4)] [] h := by
  unfold fX2_sumOver_99 at H
  refine j_lload (pc' := 101) dX2_sumOver_99 rfl 0 rfl ?_
  obtain rfl := Option.some.inj H
  exact j_lret dX2_sumOver_101 rx4 ⟨rfl, rfl⟩
noncomputable def fX2_sumOver_93 (k17 : Nat → Nat → Int → Int → Int → Int → Hp → Option (Int × Hp)) (x0 : Nat) (x1 : Nat) (x2 : Int) (x3 : Int) (x4 : Int) (x6 : Int) (h : Hp) : Option (Int × Hp) :=
  (c32 (x6 + 1)).bind fun _ => k17 x0 x1 x2 x3 x4 (x6 + 1) h
theorem tX2_sumOver_93 {L : Nat} {xs : Nat → Int32} {l : Launch} {res : Int × Hp} (k17 : Nat → Nat → Int → Int → Int → Int → Hp → Option (Int × Hp)) (hk17 : ∀ (x0 : Nat) (x1 : Nat) (x2 : Int) (x3 : Int) (x4 : Int) (x6 : Int) (h : Hp), R32 x2 → R32 x3 → R64 x4 → R32 x6 → k17 x0 x1 x2 x3 x4 x6 h = some res → J L xs l RX2 cX2_sumOver 10 false 4 (QL res) 0 0 17 [(0, vr x0), (1, vr x1), (2, vi x2), (3, vi x3), (4, vl x4), (6, vi x6)] [] h) (x0 : Nat) (x1 : Nat) (x2 : Int) (x3 : Int) (x4 : Int) (x6 : Int) (h : Hp) (rx2 : R32 x2) (rx3 : R32 x3) (rx4 : R64 x4) (rx6 : R32 x6) (H : fX2_sumOver_93 k17 x0 x1 x2 x3 x4 x6 h = some res) : J L xs l RX2 cX2_sumOver 10 false 4 (QL res) 0 0 93 [(0, vr x0), (1, vr x1), (2, vi x2), (3, vi x3), (4, vl x4), (6, vi x6)] [] h := by
  unfold fX2_sumOver_93 at H
  obtain ⟨u1, e1, H⟩ := bs H
  have r1 := c32_R e1
  refine j_iinc (k0 := 5) (lv' := [(0, vr x0), (1, vr x1), (2, vi x2), (3, vi x3), (4, vl x4), (6, vi (x6 + 1))]) (pc' := 96) dX2_sumOver_93 rfl rfl (by decide) [1, 2, 3, 4, 5, 0] rfl ?_
  refine j_goto (tgt := 17) dX2_sumOver_96 (by decide) ?_
  exact hk17 x0 x1 x2 x3 x4 (x6 + 1) h rx2 rx3 rx4 r1 H
noncomputable def fX2_sumOver_17 : Nat → Nat → Nat → Int → Int → Int → Int → Hp → Option (Int × Hp)
  | 0, _, _, _, _, _, _, _ => none
  | n + 1, x0, x1, x2, x3, x4, x6, h => (getI h 6 x1 0).bind fun v1 => if v1 ≤ x6 then (fX2_sumOver_99 x4 h) else ((fX0_has x2 x6 h).bind fun p3 => if p3.1 = 0 then (fX2_sumOver_93 (fX2_sumOver_17 n) x0 x1 x2 x3 x4 x6 p3.2) else ((fX2_likedBy x1 x6 x2 p3.2).bind fun p5 => (fJ6_bitCount_0f7a4 (bAnd x2 (bXor p5.1 (-1))) p5.2).bind fun p6 => (ldO p6.1).bind fun v7 => (cnz v7).bind fun _ => (fX2_costOfTaking x1 p5.1 (bAnd x2 (bXor p5.1 (-1))) p6.2).bind fun p9 => (getR p9.2 1 x0 1).bind fun v10 => (ald p9.2 1 v10 (bAnd x2 (bXor p5.1 (-1)))).bind fun v11 => (c64 (x4 + ((x3 * p9.1) + ((bDiv x3 v7) * v11)))).bind fun _ => fX2_sumOver_93 (fX2_sumOver_17 n) x0 x1 x2 x3 (x4 + ((x3 * p9.1) + ((bDiv x3 v7) * v11))) x6 p9.2))
theorem tX2_sumOver_17 {L : Nat} {xs : Nat → Int32} {l : Launch} {res : Int × Hp} : ∀ (n : Nat) (x0 : Nat) (x1 : Nat) (x2 : Int) (x3 : Int) (x4 : Int) (x6 : Int) (h : Hp), R32 x2 → R32 x3 → R64 x4 → R32 x6 → fX2_sumOver_17 n x0 x1 x2 x3 x4 x6 h = some res → J L xs l RX2 cX2_sumOver 10 false 4 (QL res) 0 0 17 [(0, vr x0), (1, vr x1), (2, vi x2), (3, vi x3), (4, vl x4), (6, vi x6)] [] h := by
  intro n
  induction n with
  | zero => intro x0 x1 x2 x3 x4 x6 h rx2 rx3 rx4 rx6 H; cases H
  | succ n ih =>
    intro x0 x1 x2 x3 x4 x6 h rx2 rx3 rx4 rx6 H
    rw [fX2_sumOver_17] at H
    refine j_iload (pc' := 19) dX2_sumOver_17 rfl 5 rfl ?_
    refine j_aload_n (i := 1) (pc' := 20) dX2_sumOver_19 rfl rfl 1 rfl ?_
    obtain ⟨v1, e1, H⟩ := bs H
    refine j_getI (pc' := 23) dX2_sumOver_20 rfl fl_X2_26 e1 (fun r1 => ?_)
    refine j_icmp_ge (tgt := 99) (pc' := 26) dX2_sumOver_23 (by decide) rfl rx6 r1 (fun c2 => ?_) (fun c2 => ?_)
    · rw [if_pos c2] at H
      refine j_sub (lv' := [(4, vl x4)]) [4] rfl ?_
      exact tX2_sumOver_99   x4 h rx4 H
    · rw [if_neg c2] at H
      refine j_iload_n (i := 2) (pc' := 27) dX2_sumOver_26 rfl rfl 2 rfl ?_
      refine j_iload (pc' := 29) dX2_sumOver_27 rfl 5 rfl ?_
      obtain ⟨p3, e3, H⟩ := bs H
      refine j_cSb (y := yX0_has) (dY := 1) (vs := [vi x2, vi x6]) (st := []) (pc' := 32) dX2_sumOver_29 rfl ymX0_has ysX0_has ml_X2_30 (by decide) rfl (Nat.le_of_ble_eq_true rfl) (Nat.le_of_ble_eq_true rfl) (tX0_has x2 x6 h rx2 rx6 e3) (fun r3 b3 z3 => ?_)
      refine j_if_eq (tgt := 93) (pc' := 35) dX2_sumOver_32 (by decide) rfl r3 (fun c4 => ?_) (fun c4 => ?_)
      · rw [if_pos c4] at H
        exact tX2_sumOver_93 _ ih x0 x1 x2 x3 x4 x6 p3.2 rx2 rx3 rx4 rx6 H
      · rw [if_neg c4] at H
        refine j_aload_n (i := 1) (pc' := 36) dX2_sumOver_35 rfl rfl 1 rfl ?_
        refine j_iload (pc' := 38) dX2_sumOver_36 rfl 5 rfl ?_
        refine j_iload_n (i := 2) (pc' := 39) dX2_sumOver_38 rfl rfl 2 rfl ?_
        obtain ⟨p5, e5, H⟩ := bs H
        refine j_cSi (y := yX2_likedBy) (dY := 3) (vs := [vr x1, vi x6, vi x2]) (st := []) (pc' := 42) dX2_sumOver_39 rfl ymX2_likedBy ysX2_likedBy ml_X2_36 (by decide) rfl (Nat.le_of_ble_eq_true rfl) (Nat.le_of_ble_eq_true rfl) (tX2_likedBy x1 x6 x2 p3.2 rx6 rx2 e5) (fun r5 z5 => ?_)
        refine j_istore (lv' := [(0, vr x0), (1, vr x1), (2, vi x2), (3, vi x3), (4, vl x4), (6, vi x6), (7, vi p5.1)]) (pc' := 44) dX2_sumOver_42 rfl (by decide) [1, 2, 3, 4, 5, 6, 0] rfl ?_
        refine j_iload_n (i := 2) (pc' := 45) dX2_sumOver_44 rfl rfl 2 rfl ?_
        refine j_iload (pc' := 47) dX2_sumOver_45 rfl 6 rfl ?_
        refine j_iconst (pc' := 48) dX2_sumOver_47 rfl ?_
        refine j_ixor (pc' := 49) dX2_sumOver_48 rfl ?_
        refine j_iand (pc' := 50) dX2_sumOver_49 rfl ?_
        refine j_istore (lv' := [(0, vr x0), (1, vr x1), (2, vi x2), (3, vi x3), (4, vl x4), (6, vi x6), (7, vi p5.1), (8, vi (bAnd x2 (bXor p5.1 (-1))))]) (pc' := 52) dX2_sumOver_50 rfl (by decide) [1, 2, 3, 4, 5, 6, 7, 0] rfl ?_
        refine j_iload_n (i := 3) (pc' := 53) dX2_sumOver_52 rfl rfl 3 rfl ?_
        refine j_gets (pc' := 56) dX2_sumOver_53 rfl gs_X2_61 ?_
        refine j_iload (pc' := 58) dX2_sumOver_56 rfl 7 rfl ?_
        obtain ⟨p6, e6, H⟩ := bs H
        refine j_cSi (y := yJ6_bitCount_0f7a4) (dY := 1) (vs := [vi (bAnd x2 (bXor p5.1 (-1)))]) (st := [vr 1000001, vi x3]) (pc' := 61) dX2_sumOver_58 rfl ymJ6_bitCount_0f7a4 ysJ6_bitCount_0f7a4 ml_X2_64 (by decide) rfl (Nat.le_of_ble_eq_true rfl) (Nat.le_of_ble_eq_true rfl) (tJ6_bitCount_0f7a4 (bAnd x2 (bXor p5.1 (-1))) p5.2 (R32_to _) e6) (fun r6 z6 => ?_)
        obtain ⟨v7, e7, H⟩ := bs H
        refine j_ordld (pc' := 62) dX2_sumOver_61 rfl e7 (fun r7 => ?_)
        obtain ⟨u8, e8, H⟩ := bs H
        refine j_idiv (pc' := 63) dX2_sumOver_62 rfl r7 (cnz_R e8) ?_
        refine j_istore (lv' := [(0, vr x0), (1, vr x1), (2, vi x2), (3, vi x3), (4, vl x4), (6, vi x6), (7, vi p5.1), (8, vi (bAnd x2 (bXor p5.1 (-1)))), (9, vi (bDiv x3 v7))]) (pc' := 65) dX2_sumOver_63 rfl (by decide) [1, 2, 3, 4, 5, 6, 7, 8, 0] rfl ?_
        refine j_lload (pc' := 67) dX2_sumOver_65 rfl 4 rfl ?_
        refine j_iload_n (i := 3) (pc' := 68) dX2_sumOver_67 rfl rfl 3 rfl ?_
        refine j_i2l (pc' := 69) dX2_sumOver_68 rfl rx3 ?_
        refine j_aload_n (i := 1) (pc' := 70) dX2_sumOver_69 rfl rfl 1 rfl ?_
        refine j_iload (pc' := 72) dX2_sumOver_70 rfl 6 rfl ?_
        refine j_iload (pc' := 74) dX2_sumOver_72 rfl 7 rfl ?_
        obtain ⟨p9, e9, H⟩ := bs H
        refine j_cSl (y := yX2_costOfTaking) (dY := 2) (vs := [vr x1, vi p5.1, vi (bAnd x2 (bXor p5.1 (-1)))]) (st := [vl x3, vl x4]) (pc' := 77) dX2_sumOver_74 rfl ymX2_costOfTaking ysX2_costOfTaking ml_X2_70 (by decide) rfl (Nat.le_of_ble_eq_true rfl) (Nat.le_of_ble_eq_true rfl) (tX2_costOfTaking x1 p5.1 (bAnd x2 (bXor p5.1 (-1))) p6.2 r5 (R32_to _) e9) (fun r9 z9 => ?_)
        refine j_lmul (pc' := 78) dX2_sumOver_77 rfl ?_
        refine j_iload (pc' := 80) dX2_sumOver_78 rfl 8 rfl ?_
        refine j_i2l (pc' := 81) dX2_sumOver_80 rfl (R32_to _) ?_
        refine j_aload_n (i := 0) (pc' := 82) dX2_sumOver_81 rfl rfl 0 rfl ?_
        obtain ⟨v10, e10, H⟩ := bs H
        refine j_getR (pc' := 85) dX2_sumOver_82 rfl fl_X2_15 e10 (fun r10 => ?_)
        refine j_iload (pc' := 87) dX2_sumOver_85 rfl 7 rfl ?_
        obtain ⟨v11, e11, H⟩ := bs H
        refine j_lald (pc' := 88) dX2_sumOver_87 rfl e11 (fun r11 => ?_)
        refine j_lmul (pc' := 89) dX2_sumOver_88 rfl ?_
        refine j_ladd (pc' := 90) dX2_sumOver_89 rfl ?_
        refine j_ladd (pc' := 91) dX2_sumOver_90 rfl ?_
        obtain ⟨u12, e12, H⟩ := bs H
        have r12 := c64_R e12
        refine j_lstore (lv' := [(0, vr x0), (1, vr x1), (2, vi x2), (3, vi x3), (4, vl (x4 + ((x3 * p9.1) + ((bDiv x3 v7) * v11)))), (6, vi x6), (7, vi p5.1), (8, vi (bAnd x2 (bXor p5.1 (-1)))), (9, vi (bDiv x3 v7))]) (pc' := 93) dX2_sumOver_91 rfl (by decide) [1, 2, 3, 4, 0, 5, 6, 7, 8] rfl ?_
        refine j_sub (lv' := [(0, vr x0), (1, vr x1), (2, vi x2), (3, vi x3), (4, vl (x4 + ((x3 * p9.1) + ((bDiv x3 v7) * v11)))), (6, vi x6)]) [0, 1, 2, 3, 4, 5] rfl ?_
        exact tX2_sumOver_93 _ ih x0 x1 x2 x3 (x4 + ((x3 * p9.1) + ((bDiv x3 v7) * v11))) x6 p9.2 rx2 rx3 r12 rx6 H
noncomputable def fX2_sumOver (a0 : Nat) (a1 : Nat) (a2 : Int) (h : Hp) : Option (Int × Hp) :=
  (fJ6_bitCount_0f7a4 a2 h).bind fun p1 => (ldO (p1.1 - 1)).bind fun v2 => fX2_sumOver_17 FU a0 a1 a2 v2 0 0 p1.2
theorem tX2_sumOver {L : Nat} {xs : Nat → Int32} {l : Launch} {res : Int × Hp} (a0 : Nat) (a1 : Nat) (a2 : Int) (h : Hp) (ra2 : R32 a2) (H : fX2_sumOver a0 a1 a2 h = some res) : J L xs l RX2 cX2_sumOver 10 false 4 (QL res) 0 0 0 (alv 0 [vr a0, vr a1, vi a2]) [] h := by
  unfold fX2_sumOver at H
  show J L xs l RX2 cX2_sumOver 10 false 4 (QL res) 0 0 0 [(0, vr a0), (1, vr a1), (2, vi a2)] [] h
  refine j_gets (pc' := 3) dX2_sumOver_0 rfl gs_X2_61 ?_
  refine j_iload_n (i := 2) (pc' := 4) dX2_sumOver_3 rfl rfl 2 rfl ?_
  obtain ⟨p1, e1, H⟩ := bs H
  refine j_cSi (y := yJ6_bitCount_0f7a4) (dY := 1) (vs := [vi a2]) (st := [vr 1000001]) (pc' := 7) dX2_sumOver_4 rfl ymJ6_bitCount_0f7a4 ysJ6_bitCount_0f7a4 ml_X2_64 (by decide) rfl (Nat.le_of_ble_eq_true rfl) (Nat.le_of_ble_eq_true rfl) (tJ6_bitCount_0f7a4 a2 h ra2 e1) (fun r1 z1 => ?_)
  refine j_iconst (pc' := 8) dX2_sumOver_7 rfl ?_
  refine j_isub (pc' := 9) dX2_sumOver_8 rfl ?_
  obtain ⟨v2, e2, H⟩ := bs H
  refine j_ordld (pc' := 10) dX2_sumOver_9 rfl e2 (fun r2 => ?_)
  refine j_istore_n (i := 3) (lv' := [(0, vr a0), (1, vr a1), (2, vi a2), (3, vi v2)]) (pc' := 11) dX2_sumOver_10 rfl rfl (by decide) [1, 2, 3, 0] rfl ?_
  refine j_lconst (z := 0) (pc' := 12) dX2_sumOver_11 rfl rfl ?_
  refine j_lstore (lv' := [(0, vr a0), (1, vr a1), (2, vi a2), (3, vi v2), (4, vl 0)]) (pc' := 14) dX2_sumOver_12 rfl (by decide) [1, 2, 3, 4, 0] rfl ?_
  refine j_iconst (pc' := 15) dX2_sumOver_14 rfl ?_
  refine j_istore (lv' := [(0, vr a0), (1, vr a1), (2, vi a2), (3, vi v2), (4, vl 0), (6, vi 0)]) (pc' := 17) dX2_sumOver_15 rfl (by decide) [1, 2, 3, 4, 5, 0] rfl ?_
  exact tX2_sumOver_17   FU a0 a1 a2 v2 0 0 p1.2 ra2 r2 ⟨by decide, by decide⟩ ⟨by decide, by decide⟩ H
-- X2_sumOverOrders
noncomputable def fX2_sumOverOrders_47 (x0 : Nat) (x2 : Int) (h : Hp) : Option (Int × Hp) :=
  (getR h 1 x0 1).bind fun v1 => (ald h 1 v1 (x2 - 1)).bind fun v2 => some (v2, h)
theorem tX2_sumOverOrders_47 {L : Nat} {xs : Nat → Int32} {l : Launch} {res : Int × Hp} (x0 : Nat) (x2 : Int) (h : Hp) (rx2 : R32 x2) (H : fX2_sumOverOrders_47 x0 x2 h = some res) : J L xs l RX2 cX2_sumOverOrders 4 false 5 (QL res) 0 0 47 [(0, vr x0), (2, vi x2)] [] h := by
  unfold fX2_sumOverOrders_47 at H
  refine j_aload_n (i := 0) (pc' := 48) dX2_sumOverOrders_47 rfl rfl 0 rfl ?_
  obtain ⟨v1, e1, H⟩ := bs H
  refine j_getR (pc' := 51) dX2_sumOverOrders_48 rfl fl_X2_15 e1 (fun r1 => ?_)
  refine j_iload_n (i := 2) (pc' := 52) dX2_sumOverOrders_51 rfl rfl 1 rfl ?_
  refine j_iconst (pc' := 53) dX2_sumOverOrders_52 rfl ?_
  refine j_isub (pc' := 54) dX2_sumOverOrders_53 rfl ?_
  obtain ⟨v2, e2, H⟩ := bs H
  refine j_lald (pc' := 55) dX2_sumOverOrders_54 rfl e2 (fun r2 => ?_)
  obtain rfl := Option.some.inj H
  exact j_lret dX2_sumOverOrders_55 r2 ⟨rfl, rfl⟩
noncomputable def fX2_sumOverOrders_24 : Nat → Nat → Nat → Int → Int → Hp → Option (Int × Hp)
  | 0, _, _, _, _, _ => none
  | n + 1, x0, x1, x2, x3, h => if x2 ≤ x3 then (fX2_sumOverOrders_47 x0 x2 h) else ((getR h 1 x0 1).bind fun v2 => (cob h 1 x0).bind fun _ => (fX2_sumOver x0 x1 x3 h).bind fun p4 => (ast p4.2 1 v2 x3 p4.1).bind fun h5 => (c32 (x3 + 1)).bind fun _ => fX2_sumOverOrders_24 n x0 x1 x2 (x3 + 1) h5)
theorem tX2_sumOverOrders_24 {L : Nat} {xs : Nat → Int32} {l : Launch} {res : Int × Hp} : ∀ (n : Nat) (x0 : Nat) (x1 : Nat) (x2 : Int) (x3 : Int) (h : Hp), R32 x2 → R32 x3 → fX2_sumOverOrders_24 n x0 x1 x2 x3 h = some res → J L xs l RX2 cX2_sumOverOrders 4 false 5 (QL res) 0 0 24 [(0, vr x0), (1, vr x1), (2, vi x2), (3, vi x3)] [] h := by
  intro n
  induction n with
  | zero => intro x0 x1 x2 x3 h rx2 rx3 H; cases H
  | succ n ih =>
    intro x0 x1 x2 x3 h rx2 rx3 H
    rw [fX2_sumOverOrders_24] at H
    refine j_iload_n (i := 3) (pc' := 25) dX2_sumOverOrders_24 rfl rfl 3 rfl ?_
    refine j_iload_n (i := 2) (pc' := 26) dX2_sumOverOrders_25 rfl rfl 2 rfl ?_
    refine j_icmp_ge (tgt := 47) (pc' := 29) dX2_sumOverOrders_26 (by decide) rfl rx3 rx2 (fun c1 => ?_) (fun c1 => ?_)
    · rw [if_pos c1] at H
      refine j_sub (lv' := [(0, vr x0), (2, vi x2)]) [0, 2] rfl ?_
      exact tX2_sumOverOrders_47   x0 x2 h rx2 H
    · rw [if_neg c1] at H
      refine j_aload_n (i := 0) (pc' := 30) dX2_sumOverOrders_29 rfl rfl 0 rfl ?_
      obtain ⟨v2, e2, H⟩ := bs H
      refine j_getR (pc' := 33) dX2_sumOverOrders_30 rfl fl_X2_15 e2 (fun r2 => ?_)
      refine j_iload_n (i := 3) (pc' := 34) dX2_sumOverOrders_33 rfl rfl 3 rfl ?_
      refine j_aload_n (i := 0) (pc' := 35) dX2_sumOverOrders_34 rfl rfl 0 rfl ?_
      refine j_aload_n (i := 1) (pc' := 36) dX2_sumOverOrders_35 rfl rfl 1 rfl ?_
      refine j_iload_n (i := 3) (pc' := 37) dX2_sumOverOrders_36 rfl rfl 3 rfl ?_
      obtain ⟨u3, e3, H⟩ := bs H
      obtain ⟨p4, e4, H⟩ := bs H
      refine j_cVl (y := yX2_sumOver) (dY := 4) (vs := [vr x1, vi x3]) (st := [vi x3, vr v2]) (q := x0) (pc' := 40) dX2_sumOverOrders_37 rfl ymX2_sumOver yvX2_sumOver ml_X2_57 (by decide) rfl (Nat.le_of_ble_eq_true rfl) (Nat.le_of_ble_eq_true rfl) e3 (tX2_sumOver x0 x1 x3 h rx3 e4) (fun r4 z4 => ?_)
      obtain ⟨h5, e5, H⟩ := bs H
      refine j_last (pc' := 41) dX2_sumOverOrders_40 rfl r4 e5 ?_
      obtain ⟨u6, e6, H⟩ := bs H
      have r6 := c32_R e6
      refine j_iinc (k0 := 3) (lv' := [(0, vr x0), (1, vr x1), (2, vi x2), (3, vi (x3 + 1))]) (pc' := 44) dX2_sumOverOrders_41 rfl rfl (by decide) [1, 2, 3, 0] rfl ?_
      refine j_goto (tgt := 24) dX2_sumOverOrders_44 (by decide) ?_
      exact ih x0 x1 x2 (x3 + 1) h5 rx2 r6 H
noncomputable def fX2_sumOverOrders (a0 : Nat) (a1 : Nat) (h : Hp) : Option (Int × Hp) :=
  (getI h 6 a1 0).bind fun v1 => (getR h 1 a0 1).bind fun v2 => (aln h 1 v2).bind fun v3 => (getR h 1 a0 1).bind fun v4 => (ast h 1 v4 0 0).bind fun h5 => fX2_sumOverOrders_24 FU a0 a1 (min (bShl 1 v1) v3) 1 h5
theorem tX2_sumOverOrders {L : Nat} {xs : Nat → Int32} {l : Launch} {res : Int × Hp} (a0 : Nat) (a1 : Nat) (h : Hp)  (H : fX2_sumOverOrders a0 a1 h = some res) : J L xs l RX2 cX2_sumOverOrders 4 false 5 (QL res) 0 0 0 (alv 0 [vr a0, vr a1]) [] h := by
  unfold fX2_sumOverOrders at H
  show J L xs l RX2 cX2_sumOverOrders 4 false 5 (QL res) 0 0 0 [(0, vr a0), (1, vr a1)] [] h
  refine j_iconst (pc' := 1) dX2_sumOverOrders_0 rfl ?_
  refine j_aload_n (i := 1) (pc' := 2) dX2_sumOverOrders_1 rfl rfl 1 rfl ?_
  obtain ⟨v1, e1, H⟩ := bs H
  refine j_getI (pc' := 5) dX2_sumOverOrders_2 rfl fl_X2_26 e1 (fun r1 => ?_)
  refine j_ishl (pc' := 6) dX2_sumOverOrders_5 rfl ?_
  refine j_aload_n (i := 0) (pc' := 7) dX2_sumOverOrders_6 rfl rfl 0 rfl ?_
  obtain ⟨v2, e2, H⟩ := bs H
  refine j_getR (pc' := 10) dX2_sumOverOrders_7 rfl fl_X2_15 e2 (fun r2 => ?_)
  obtain ⟨v3, e3, H⟩ := bs H
  refine j_alen (kd := 1) (pc' := 11) dX2_sumOverOrders_10 rfl e3 (fun r3 => ?_)
  refine j_mmin (pc' := 14) dX2_sumOverOrders_11 rfl ml_X2_51 (by decide) (Nat.le_of_ble_eq_true rfl) (R32_to _) r3 ?_
  refine j_istore_n (i := 2) (lv' := [(0, vr a0), (1, vr a1), (2, vi (min (bShl 1 v1) v3))]) (pc' := 15) dX2_sumOverOrders_14 rfl rfl (by decide) [1, 2, 0] rfl ?_
  refine j_aload_n (i := 0) (pc' := 16) dX2_sumOverOrders_15 rfl rfl 0 rfl ?_
  obtain ⟨v4, e4, H⟩ := bs H
  refine j_getR (pc' := 19) dX2_sumOverOrders_16 rfl fl_X2_15 e4 (fun r4 => ?_)
  refine j_iconst (pc' := 20) dX2_sumOverOrders_19 rfl ?_
  refine j_lconst (z := 0) (pc' := 21) dX2_sumOverOrders_20 rfl rfl ?_
  obtain ⟨h5, e5, H⟩ := bs H
  refine j_last (pc' := 22) dX2_sumOverOrders_21 rfl ⟨by decide, by decide⟩ e5 ?_
  refine j_iconst (pc' := 23) dX2_sumOverOrders_22 rfl ?_
  refine j_istore_n (i := 3) (lv' := [(0, vr a0), (1, vr a1), (2, vi (min (bShl 1 v1) v3)), (3, vi 1)]) (pc' := 24) dX2_sumOverOrders_23 rfl rfl (by decide) [1, 2, 3, 0] rfl ?_
  exact tX2_sumOverOrders_24   FU a0 a1 (min (bShl 1 v1) v3) 1 h5 (R32_min (R32_to _) r3) ⟨by decide, by decide⟩ H
-- X2_isBroken
noncomputable def fX2_isBroken_68 (s0 : Int) (h : Hp) : Option (Int × Hp) :=
  (cbo s0).bind fun _ => some (s0, h)
theorem tX2_isBroken_68 {L : Nat} {xs : Nat → Int32} {l : Launch} {res : Int × Hp} (s0 : Int) (h : Hp) (rs0 : R32 s0) (H : fX2_isBroken_68 s0 h = some res) : J L xs l RX2 cX2_isBroken 5 false 2 (QB res) 0 0 68 [] [vi s0] h := by
  unfold fX2_isBroken_68 at H
  obtain ⟨u1, e1, H⟩ := bs H
  obtain rfl := Option.some.inj H
  exact j_iret dX2_isBroken_68 rs0 ⟨rfl, rfl, cbo_R e1⟩
noncomputable def fX2_isBroken_67  (h : Hp) : Option (Int × Hp) :=
  fX2_isBroken_68 0 h
theorem tX2_isBroken_67 {L : Nat} {xs : Nat → Int32} {l : Launch} {res : Int × Hp}  (h : Hp)  (H : fX2_isBroken_67  h = some res) : J L xs l RX2 cX2_isBroken 5 false 2 (QB res) 0 0 67 [] [] h := by
  unfold fX2_isBroken_67 at H
  refine j_iconst (pc' := 68) dX2_isBroken_67 rfl ?_
  exact tX2_isBroken_68   0 h ⟨by decide, by decide⟩ H
noncomputable def fX2_isBroken_32 (x0 : Nat) (x1 : Int) (x2 : Int) (x3 : Int) (s0 : Int) (h : Hp) : Option (Int × Hp) :=
  if s0 = 0 then (fX2_isBroken_67 h) else ((cob h 6 x0).bind fun _ => (fX7_likeOf x0 x1 x2 h).bind fun p3 => (cob p3.2 6 x0).bind fun _ => (fX7_likeOf x0 x1 x3 p3.2).bind fun p5 => (cob p5.2 6 x0).bind fun _ => (fX7_likeOf x0 x2 x3 p5.2).bind fun p7 => (c32 ((p3.1 + p5.1) + p7.1)).bind fun _ => if ((p3.1 + p5.1) + p7.1) = 2 then (fX2_isBroken_68 1 p7.2) else (fX2_isBroken_67 p7.2))
theorem tX2_isBroken_32 {L : Nat} {xs : Nat → Int32} {l : Launch} {res : Int × Hp} (x0 : Nat) (x1 : Int) (x2 : Int) (x3 : Int) (s0 : Int) (h : Hp) (rx1 : R32 x1) (rx2 : R32 x2) (rx3 : R32 x3) (rs0 : R32 s0) (H : fX2_isBroken_32 x0 x1 x2 x3 s0 h = some res) : J L xs l RX2 cX2_isBroken 5 false 2 (QB res) 0 0 32 [(0, vr x0), (1, vi x1), (2, vi x2), (3, vi x3)] [vi s0] h := by
  unfold fX2_isBroken_32 at H
  refine j_istore (lv' := [(0, vr x0), (1, vi x1), (2, vi x2), (3, vi x3), (4, vi s0)]) (pc' := 34) dX2_isBroken_32 rfl (by decide) [1, 2, 3, 4, 0] rfl ?_
  refine j_iload (pc' := 36) dX2_isBroken_34 rfl 4 rfl ?_
  refine j_if_eq (tgt := 67) (pc' := 39) dX2_isBroken_36 (by decide) rfl rs0 (fun c1 => ?_) (fun c1 => ?_)
  · rw [if_pos c1] at H
    refine j_sub (lv' := []) [] rfl ?_
    exact tX2_isBroken_67   h  H
  · rw [if_neg c1] at H
    refine j_aload_n (i := 0) (pc' := 40) dX2_isBroken_39 rfl rfl 0 rfl ?_
    refine j_iload_n (i := 1) (pc' := 41) dX2_isBroken_40 rfl rfl 1 rfl ?_
    refine j_iload_n (i := 2) (pc' := 42) dX2_isBroken_41 rfl rfl 2 rfl ?_
    obtain ⟨u2, e2, H⟩ := bs H
    obtain ⟨p3, e3, H⟩ := bs H
    refine j_cVi (y := yX7_likeOf) (dY := 1) (vs := [vi x1, vi x2]) (st := []) (q := x0) (pc' := 45) dX2_isBroken_42 rfl ymX7_likeOf yvX7_likeOf ml_X2_74 (by decide) rfl (Nat.le_of_ble_eq_true rfl) (Nat.le_of_ble_eq_true rfl) e2 (tX7_likeOf x0 x1 x2 h rx1 rx2 e3) (fun r3 z3 => ?_)
    refine j_aload_n (i := 0) (pc' := 46) dX2_isBroken_45 rfl rfl 0 rfl ?_
    refine j_iload_n (i := 1) (pc' := 47) dX2_isBroken_46 rfl rfl 1 rfl ?_
    refine j_iload_n (i := 3) (pc' := 48) dX2_isBroken_47 rfl rfl 3 rfl ?_
    obtain ⟨u4, e4, H⟩ := bs H
    obtain ⟨p5, e5, H⟩ := bs H
    refine j_cVi (y := yX7_likeOf) (dY := 1) (vs := [vi x1, vi x3]) (st := [vi p3.1]) (q := x0) (pc' := 51) dX2_isBroken_48 rfl ymX7_likeOf yvX7_likeOf ml_X2_74 (by decide) rfl (Nat.le_of_ble_eq_true rfl) (Nat.le_of_ble_eq_true rfl) e4 (tX7_likeOf x0 x1 x3 p3.2 rx1 rx3 e5) (fun r5 z5 => ?_)
    refine j_iadd (pc' := 52) dX2_isBroken_51 rfl ?_
    refine j_aload_n (i := 0) (pc' := 53) dX2_isBroken_52 rfl rfl 0 rfl ?_
    refine j_iload_n (i := 2) (pc' := 54) dX2_isBroken_53 rfl rfl 2 rfl ?_
    refine j_iload_n (i := 3) (pc' := 55) dX2_isBroken_54 rfl rfl 3 rfl ?_
    obtain ⟨u6, e6, H⟩ := bs H
    obtain ⟨p7, e7, H⟩ := bs H
    refine j_cVi (y := yX7_likeOf) (dY := 1) (vs := [vi x2, vi x3]) (st := [vi (p3.1 + p5.1)]) (q := x0) (pc' := 58) dX2_isBroken_55 rfl ymX7_likeOf yvX7_likeOf ml_X2_74 (by decide) rfl (Nat.le_of_ble_eq_true rfl) (Nat.le_of_ble_eq_true rfl) e6 (tX7_likeOf x0 x2 x3 p5.2 rx2 rx3 e7) (fun r7 z7 => ?_)
    refine j_iadd (pc' := 59) dX2_isBroken_58 rfl ?_
    refine j_iconst (pc' := 60) dX2_isBroken_59 rfl ?_
    obtain ⟨u8, e8, H⟩ := bs H
    have r8 := c32_R e8
    refine j_icmp_ne (tgt := 67) (pc' := 63) dX2_isBroken_60 (by decide) rfl r8 ⟨by decide, by decide⟩ (fun c9 => ?_) (fun c9 => ?_)
    · rw [if_neg c9] at H
      refine j_sub (lv' := []) [] rfl ?_
      exact tX2_isBroken_67   p7.2  H
    · rw [if_pos c9] at H
      refine j_iconst (pc' := 64) dX2_isBroken_63 rfl ?_
      refine j_goto (tgt := 68) dX2_isBroken_64 (by decide) ?_
      refine j_sub (lv' := []) [] rfl ?_
      exact tX2_isBroken_68   1 p7.2 ⟨by decide, by decide⟩ H
noncomputable def fX2_isBroken_31 (x0 : Nat) (x1 : Int) (x2 : Int) (x3 : Int) (h : Hp) : Option (Int × Hp) :=
  fX2_isBroken_32 x0 x1 x2 x3 0 h
theorem tX2_isBroken_31 {L : Nat} {xs : Nat → Int32} {l : Launch} {res : Int × Hp} (x0 : Nat) (x1 : Int) (x2 : Int) (x3 : Int) (h : Hp) (rx1 : R32 x1) (rx2 : R32 x2) (rx3 : R32 x3) (H : fX2_isBroken_31 x0 x1 x2 x3 h = some res) : J L xs l RX2 cX2_isBroken 5 false 2 (QB res) 0 0 31 [(0, vr x0), (1, vi x1), (2, vi x2), (3, vi x3)] [] h := by
  unfold fX2_isBroken_31 at H
  refine j_iconst (pc' := 32) dX2_isBroken_31 rfl ?_
  exact tX2_isBroken_32   x0 x1 x2 x3 0 h rx1 rx2 rx3 ⟨by decide, by decide⟩ H
noncomputable def fX2_isBroken (a0 : Nat) (a1 : Int) (a2 : Int) (a3 : Int) (h : Hp) : Option (Int × Hp) :=
  (cob h 6 a0).bind fun _ => (fX7_weightOf a0 a1 a2 h).bind fun p2 => if p2.1 ≤ 0 then (fX2_isBroken_31 a0 a1 a2 a3 p2.2) else ((cob p2.2 6 a0).bind fun _ => (fX7_weightOf a0 a1 a3 p2.2).bind fun p5 => if p5.1 ≤ 0 then (fX2_isBroken_31 a0 a1 a2 a3 p5.2) else ((cob p5.2 6 a0).bind fun _ => (fX7_weightOf a0 a2 a3 p5.2).bind fun p8 => if p8.1 ≤ 0 then (fX2_isBroken_31 a0 a1 a2 a3 p8.2) else (fX2_isBroken_32 a0 a1 a2 a3 1 p8.2)))
theorem tX2_isBroken {L : Nat} {xs : Nat → Int32} {l : Launch} {res : Int × Hp} (a0 : Nat) (a1 : Int) (a2 : Int) (a3 : Int) (h : Hp) (ra1 : R32 a1) (ra2 : R32 a2) (ra3 : R32 a3) (H : fX2_isBroken a0 a1 a2 a3 h = some res) : J L xs l RX2 cX2_isBroken 5 false 2 (QB res) 0 0 0 (alv 0 [vr a0, vi a1, vi a2, vi a3]) [] h := by
  unfold fX2_isBroken at H
  show J L xs l RX2 cX2_isBroken 5 false 2 (QB res) 0 0 0 [(0, vr a0), (1, vi a1), (2, vi a2), (3, vi a3)] [] h
  refine j_aload_n (i := 0) (pc' := 1) dX2_isBroken_0 rfl rfl 0 rfl ?_
  refine j_iload_n (i := 1) (pc' := 2) dX2_isBroken_1 rfl rfl 1 rfl ?_
  refine j_iload_n (i := 2) (pc' := 3) dX2_isBroken_2 rfl rfl 2 rfl ?_
  obtain ⟨u1, e1, H⟩ := bs H
  obtain ⟨p2, e2, H⟩ := bs H
  refine j_cVi (y := yX7_weightOf) (dY := 1) (vs := [vi a1, vi a2]) (st := []) (q := a0) (pc' := 6) dX2_isBroken_3 rfl ymX7_weightOf yvX7_weightOf ml_X2_77 (by decide) rfl (Nat.le_of_ble_eq_true rfl) (Nat.le_of_ble_eq_true rfl) e1 (tX7_weightOf a0 a1 a2 h ra1 ra2 e2) (fun r2 z2 => ?_)
  refine j_if_le (tgt := 31) (pc' := 9) dX2_isBroken_6 (by decide) rfl r2 (fun c3 => ?_) (fun c3 => ?_)
  · rw [if_pos c3] at H
    exact tX2_isBroken_31   a0 a1 a2 a3 p2.2 ra1 ra2 ra3 H
  · rw [if_neg c3] at H
    refine j_aload_n (i := 0) (pc' := 10) dX2_isBroken_9 rfl rfl 0 rfl ?_
    refine j_iload_n (i := 1) (pc' := 11) dX2_isBroken_10 rfl rfl 1 rfl ?_
    refine j_iload_n (i := 3) (pc' := 12) dX2_isBroken_11 rfl rfl 3 rfl ?_
    obtain ⟨u4, e4, H⟩ := bs H
    obtain ⟨p5, e5, H⟩ := bs H
    refine j_cVi (y := yX7_weightOf) (dY := 1) (vs := [vi a1, vi a3]) (st := []) (q := a0) (pc' := 15) dX2_isBroken_12 rfl ymX7_weightOf yvX7_weightOf ml_X2_77 (by decide) rfl (Nat.le_of_ble_eq_true rfl) (Nat.le_of_ble_eq_true rfl) e4 (tX7_weightOf a0 a1 a3 p2.2 ra1 ra3 e5) (fun r5 z5 => ?_)
    refine j_if_le (tgt := 31) (pc' := 18) dX2_isBroken_15 (by decide) rfl r5 (fun c6 => ?_) (fun c6 => ?_)
    · rw [if_pos c6] at H
      exact tX2_isBroken_31   a0 a1 a2 a3 p5.2 ra1 ra2 ra3 H
    · rw [if_neg c6] at H
      refine j_aload_n (i := 0) (pc' := 19) dX2_isBroken_18 rfl rfl 0 rfl ?_
      refine j_iload_n (i := 2) (pc' := 20) dX2_isBroken_19 rfl rfl 2 rfl ?_
      refine j_iload_n (i := 3) (pc' := 21) dX2_isBroken_20 rfl rfl 3 rfl ?_
      obtain ⟨u7, e7, H⟩ := bs H
      obtain ⟨p8, e8, H⟩ := bs H
      refine j_cVi (y := yX7_weightOf) (dY := 1) (vs := [vi a2, vi a3]) (st := []) (q := a0) (pc' := 24) dX2_isBroken_21 rfl ymX7_weightOf yvX7_weightOf ml_X2_77 (by decide) rfl (Nat.le_of_ble_eq_true rfl) (Nat.le_of_ble_eq_true rfl) e7 (tX7_weightOf a0 a2 a3 p5.2 ra2 ra3 e8) (fun r8 z8 => ?_)
      refine j_if_le (tgt := 31) (pc' := 27) dX2_isBroken_24 (by decide) rfl r8 (fun c9 => ?_) (fun c9 => ?_)
      · rw [if_pos c9] at H
        exact tX2_isBroken_31   a0 a1 a2 a3 p8.2 ra1 ra2 ra3 H
      · rw [if_neg c9] at H
        refine j_iconst (pc' := 28) dX2_isBroken_27 rfl ?_
        refine j_goto (tgt := 32) dX2_isBroken_28 (by decide) ?_
        exact tX2_isBroken_32   a0 a1 a2 a3 1 p8.2 ra1 ra2 ra3 ⟨by decide, by decide⟩ H
