-- X2_init
def fX2_init (a0 : Nat) (h : Hp) : Option (Hp) :=
  (cob h 1 a0).bind fun _ => (crf h a0).bind fun _ => (newO h (arr 0 12 (fun _ => 0))).bind fun p3 => (crf p3.2 p3.1).bind fun _ => (putV p3.2 1 a0 0 (vr p3.1)).bind fun h5 => (crf h5 a0).bind fun _ => (newO h5 (arr 1 128 (fun _ => 0))).bind fun p7 => (crf p7.2 p7.1).bind fun _ => (putV p7.2 1 a0 1 (vr p7.1)).bind fun h9 => some h9
theorem tX2_init {L : Nat} {xs : Nat → Int32} {l : Launch} {res : Hp} (a0 : Nat) (h : Hp)  (H : fX2_init a0 h = some res) : J L xs l RX2 cX2_init 1 true 1 (QV res) 2 140 0 (alv 0 [vr a0]) [] h := by
  unfold fX2_init at H
  show J L xs l RX2 cX2_init 1 true 1 (QV res) 2 140 0 [(0, vr a0)] [] h
  refine j_aload_n (i := 0) (pc' := 1) dX2_init_0 rfl rfl 0 rfl ?_
  obtain ⟨u1, e1, H⟩ := bs H
  refine j_objInit (pc' := 4) dX2_init_1 rfl ml_X2_3 oi_1 oi_2 (by decide) e1 (Nat.le_of_ble_eq_true rfl) ?_
  refine j_aload_n (i := 0) (pc' := 5) dX2_init_4 rfl rfl 0 rfl ?_
  refine j_bipush (pc' := 7) dX2_init_5 rfl (by decide +kernel) ?_
  obtain ⟨u2, e2, H⟩ := bs H
  obtain ⟨p3, e3, H⟩ := bs H
  refine j_newIp (N := 12) (rc := 1) (rs := 128) (pc' := 9) rfl (by decide) dX2_init_7 rfl ak_int ⟨(crf_R e2), trivial⟩ ⟨(crf_R e2), trivial⟩ e3 ?_
  obtain ⟨u4, e4, H⟩ := bs H
  obtain ⟨h5, e5, H⟩ := bs H
  refine j_putF (pc' := 12) dX2_init_9 rfl rfl fp_X2_9 tR (crf_R e4) e5 ?_
  refine j_aload_n (i := 0) (pc' := 13) dX2_init_12 rfl rfl 0 rfl ?_
  refine j_sipush (pc' := 16) dX2_init_13 rfl (by decide +kernel) ?_
  obtain ⟨u6, e6, H⟩ := bs H
  obtain ⟨p7, e7, H⟩ := bs H
  refine j_newLp (N := 128) (rc := 0) (rs := 0) (pc' := 18) rfl (by decide) dX2_init_16 rfl ak_long ⟨(crf_R e6), trivial⟩ ⟨(crf_R e6), trivial⟩ e7 ?_
  obtain ⟨u8, e8, H⟩ := bs H
  obtain ⟨h9, e9, H⟩ := bs H
  refine j_putF (pc' := 21) dX2_init_18 rfl rfl fp_X2_15 tR (crf_R e8) e9 ?_
  obtain rfl := Option.some.inj H
  exact j_vret dX2_init_21 ⟨rfl, rfl⟩
-- X2_shuffle
def fX2_shuffle_91  (h : Hp) : Option (Hp) :=
  some h
theorem tX2_shuffle_91 {L : Nat} {xs : Nat → Int32} {l : Launch} {res : Hp}  (h : Hp)  (H : fX2_shuffle_91  h = some res) : J L xs l RX2 cX2_shuffle 7 false 1 (QV res) 0 0 91 [] [] h := by
  unfold fX2_shuffle_91 at H
  obtain rfl := Option.some.inj H
  exact j_vret dX2_shuffle_91 ⟨rfl, rfl⟩
def fX2_shuffle_27 : Nat → Nat → Int → Int → Hp → Option (Hp)
  | 0, _, _, _, _ => none
  | n + 1, x0, x3, x4, h => if x4 < 1 then (fX2_shuffle_91 h) else ((c32 ((x3 * 1103515245) + 12345)).bind fun _ => (c32 (x4 + 1)).bind fun _ => (cnz (x4 + 1)).bind fun _ => (getR h 1 x0 0).bind fun v5 => (ald h 0 v5 x4).bind fun v6 => (getR h 1 x0 0).bind fun v7 => (getR h 1 x0 0).bind fun v8 => (ald h 0 v8 (bRem (bUsh ((x3 * 1103515245) + 12345) 16) (x4 + 1))).bind fun v9 => (ast h 0 v7 x4 v9).bind fun h10 => (getR h10 1 x0 0).bind fun v11 => (ast h10 0 v11 (bRem (bUsh ((x3 * 1103515245) + 12345) 16) (x4 + 1)) v6).bind fun h12 => (c32 (x4 + (-1))).bind fun _ => fX2_shuffle_27 n x0 ((x3 * 1103515245) + 12345) (x4 + (-1)) h12)
theorem tX2_shuffle_27 {L : Nat} {xs : Nat → Int32} {l : Launch} {res : Hp} : ∀ (n : Nat) (x0 : Nat) (x3 : Int) (x4 : Int) (h : Hp), R32 x3 → R32 x4 → fX2_shuffle_27 n x0 x3 x4 h = some res → J L xs l RX2 cX2_shuffle 7 false 1 (QV res) 0 0 27 [(0, vr x0), (3, vi x3), (4, vi x4)] [] h := by
  intro n
  induction n with
  | zero => intro x0 x3 x4 h rx3 rx4 H; cases H
  | succ n ih =>
    intro x0 x3 x4 h rx3 rx4 H
    rw [fX2_shuffle_27] at H
    refine j_iload (pc' := 29) dX2_shuffle_27 rfl 2 rfl ?_
    refine j_iconst (pc' := 30) dX2_shuffle_29 rfl ?_
    refine j_icmp_lt (tgt := 91) (pc' := 33) dX2_shuffle_30 (by decide) rfl rx4 ⟨by decide, by decide⟩ (fun c1 => ?_) (fun c1 => ?_)
    · rw [if_pos c1] at H
      refine j_sub (lv' := []) [] rfl ?_
      exact tX2_shuffle_91   h  H
    · rw [if_neg c1] at H
      refine j_iload_n (i := 3) (pc' := 34) dX2_shuffle_33 rfl rfl 1 rfl ?_
      refine j_ldc (z := 1103515245) (pc' := 36) dX2_shuffle_34 rfl kk_X2_19 (by decide +kernel) ?_
      refine j_imul (pc' := 37) dX2_shuffle_36 rfl ?_
      refine j_sipush (pc' := 40) dX2_shuffle_37 rfl (by decide +kernel) ?_
      refine j_iadd (pc' := 41) dX2_shuffle_40 rfl ?_
      obtain ⟨u2, e2, H⟩ := bs H
      have r2 := c32_R e2
      refine j_istore_n (i := 3) (lv' := [(0, vr x0), (3, vi ((x3 * 1103515245) + 12345)), (4, vi x4)]) (pc' := 42) dX2_shuffle_41 rfl rfl (by decide) [1, 0, 2] rfl ?_
      refine j_iload_n (i := 3) (pc' := 43) dX2_shuffle_42 rfl rfl 1 rfl ?_
      refine j_bipush (pc' := 45) dX2_shuffle_43 rfl (by decide +kernel) ?_
      refine j_iushr (pc' := 46) dX2_shuffle_45 rfl ?_
      refine j_iload (pc' := 48) dX2_shuffle_46 rfl 2 rfl ?_
      refine j_iconst (pc' := 49) dX2_shuffle_48 rfl ?_
      refine j_iadd (pc' := 50) dX2_shuffle_49 rfl ?_
      obtain ⟨u3, e3, H⟩ := bs H
      have r3 := c32_R e3
      obtain ⟨u4, e4, H⟩ := bs H
      refine j_irem (pc' := 51) dX2_shuffle_50 rfl r3 (cnz_R e4) ?_
      refine j_istore (lv' := [(0, vr x0), (3, vi ((x3 * 1103515245) + 12345)), (4, vi x4), (5, vi (bRem (bUsh ((x3 * 1103515245) + 12345) 16) (x4 + 1)))]) (pc' := 53) dX2_shuffle_51 rfl (by decide) [1, 2, 3, 0] rfl ?_
      refine j_aload_n (i := 0) (pc' := 54) dX2_shuffle_53 rfl rfl 0 rfl ?_
      obtain ⟨v5, e5, H⟩ := bs H
      refine j_getR (pc' := 57) dX2_shuffle_54 rfl fl_X2_9 e5 (fun r5 => ?_)
      refine j_iload (pc' := 59) dX2_shuffle_57 rfl 2 rfl ?_
      obtain ⟨v6, e6, H⟩ := bs H
      refine j_iald (pc' := 60) dX2_shuffle_59 rfl e6 (fun r6 => ?_)
      refine j_istore (lv' := [(0, vr x0), (3, vi ((x3 * 1103515245) + 12345)), (4, vi x4), (5, vi (bRem (bUsh ((x3 * 1103515245) + 12345) 16) (x4 + 1))), (6, vi v6)]) (pc' := 62) dX2_shuffle_60 rfl (by decide) [1, 2, 3, 4, 0] rfl ?_
      refine j_aload_n (i := 0) (pc' := 63) dX2_shuffle_62 rfl rfl 0 rfl ?_
      obtain ⟨v7, e7, H⟩ := bs H
      refine j_getR (pc' := 66) dX2_shuffle_63 rfl fl_X2_9 e7 (fun r7 => ?_)
      refine j_iload (pc' := 68) dX2_shuffle_66 rfl 2 rfl ?_
      refine j_aload_n (i := 0) (pc' := 69) dX2_shuffle_68 rfl rfl 0 rfl ?_
      obtain ⟨v8, e8, H⟩ := bs H
      refine j_getR (pc' := 72) dX2_shuffle_69 rfl fl_X2_9 e8 (fun r8 => ?_)
      refine j_iload (pc' := 74) dX2_shuffle_72 rfl 3 rfl ?_
      obtain ⟨v9, e9, H⟩ := bs H
      refine j_iald (pc' := 75) dX2_shuffle_74 rfl e9 (fun r9 => ?_)
      obtain ⟨h10, e10, H⟩ := bs H
      refine j_iast (pc' := 76) dX2_shuffle_75 rfl r9 e10 ?_
      refine j_aload_n (i := 0) (pc' := 77) dX2_shuffle_76 rfl rfl 0 rfl ?_
      obtain ⟨v11, e11, H⟩ := bs H
      refine j_getR (pc' := 80) dX2_shuffle_77 rfl fl_X2_9 e11 (fun r11 => ?_)
      refine j_iload (pc' := 82) dX2_shuffle_80 rfl 3 rfl ?_
      refine j_iload (pc' := 84) dX2_shuffle_82 rfl 4 rfl ?_
      obtain ⟨h12, e12, H⟩ := bs H
      refine j_iast (pc' := 85) dX2_shuffle_84 rfl r6 e12 ?_
      obtain ⟨u13, e13, H⟩ := bs H
      have r13 := c32_R e13
      refine j_iinc (k0 := 2) (lv' := [(0, vr x0), (3, vi ((x3 * 1103515245) + 12345)), (4, vi (x4 + (-1))), (5, vi (bRem (bUsh ((x3 * 1103515245) + 12345) 16) (x4 + 1))), (6, vi v6)]) (pc' := 88) dX2_shuffle_85 rfl rfl (by decide) [1, 2, 0, 3, 4] rfl ?_
      refine j_goto (tgt := 27) dX2_shuffle_88 (by decide) ?_
      refine j_sub (lv' := [(0, vr x0), (3, vi ((x3 * 1103515245) + 12345)), (4, vi (x4 + (-1)))]) [0, 1, 2] rfl ?_
      exact ih x0 ((x3 * 1103515245) + 12345) (x4 + (-1)) h12 r2 r13 H
def fX2_shuffle_20 (x0 : Nat) (x1 : Int) (x2 : Int) (h : Hp) : Option (Hp) :=
  (c32 (x2 - 1)).bind fun _ => fX2_shuffle_27 FU x0 x1 (x2 - 1) h
theorem tX2_shuffle_20 {L : Nat} {xs : Nat → Int32} {l : Launch} {res : Hp} (x0 : Nat) (x1 : Int) (x2 : Int) (h : Hp) (rx1 : R32 x1) (rx2 : R32 x2) (H : fX2_shuffle_20 x0 x1 x2 h = some res) : J L xs l RX2 cX2_shuffle 7 false 1 (QV res) 0 0 20 [(0, vr x0), (1, vi x1), (2, vi x2)] [] h := by
  unfold fX2_shuffle_20 at H
  refine j_iload_n (i := 1) (pc' := 21) dX2_shuffle_20 rfl rfl 1 rfl ?_
  refine j_istore_n (i := 3) (lv' := [(0, vr x0), (1, vi x1), (2, vi x2), (3, vi x1)]) (pc' := 22) dX2_shuffle_21 rfl rfl (by decide) [1, 2, 3, 0] rfl ?_
  refine j_iload_n (i := 2) (pc' := 23) dX2_shuffle_22 rfl rfl 2 rfl ?_
  refine j_iconst (pc' := 24) dX2_shuffle_23 rfl ?_
  refine j_isub (pc' := 25) dX2_shuffle_24 rfl ?_
  obtain ⟨u1, e1, H⟩ := bs H
  have r1 := c32_R e1
  refine j_istore (lv' := [(0, vr x0), (1, vi x1), (2, vi x2), (3, vi x1), (4, vi (x2 - 1))]) (pc' := 27) dX2_shuffle_25 rfl (by decide) [1, 2, 3, 4, 0] rfl ?_
  refine j_sub (lv' := [(0, vr x0), (3, vi x1), (4, vi (x2 - 1))]) [0, 3, 4] rfl ?_
  exact tX2_shuffle_27   FU x0 x1 (x2 - 1) h rx1 r1 H
def fX2_shuffle_2 : Nat → Nat → Int → Int → Int → Hp → Option (Hp)
  | 0, _, _, _, _, _ => none
  | n + 1, x0, x1, x2, x3, h => if x2 ≤ x3 then (fX2_shuffle_20 x0 x1 x2 h) else ((getR h 1 x0 0).bind fun v2 => (ast h 0 v2 x3 x3).bind fun h3 => (c32 (x3 + 1)).bind fun _ => fX2_shuffle_2 n x0 x1 x2 (x3 + 1) h3)
theorem tX2_shuffle_2 {L : Nat} {xs : Nat → Int32} {l : Launch} {res : Hp} : ∀ (n : Nat) (x0 : Nat) (x1 : Int) (x2 : Int) (x3 : Int) (h : Hp), R32 x1 → R32 x2 → R32 x3 → fX2_shuffle_2 n x0 x1 x2 x3 h = some res → J L xs l RX2 cX2_shuffle 7 false 1 (QV res) 0 0 2 [(0, vr x0), (1, vi x1), (2, vi x2), (3, vi x3)] [] h := by
  intro n
  induction n with
  | zero => intro x0 x1 x2 x3 h rx1 rx2 rx3 H; cases H
  | succ n ih =>
    intro x0 x1 x2 x3 h rx1 rx2 rx3 H
    rw [fX2_shuffle_2] at H
    refine j_iload_n (i := 3) (pc' := 3) dX2_shuffle_2 rfl rfl 3 rfl ?_
    refine j_iload_n (i := 2) (pc' := 4) dX2_shuffle_3 rfl rfl 2 rfl ?_
    refine j_icmp_ge (tgt := 20) (pc' := 7) dX2_shuffle_4 (by decide) rfl rx3 rx2 (fun c1 => ?_) (fun c1 => ?_)
    · rw [if_pos c1] at H
      refine j_sub (lv' := [(0, vr x0), (1, vi x1), (2, vi x2)]) [0, 1, 2] rfl ?_
      exact tX2_shuffle_20   x0 x1 x2 h rx1 rx2 H
    · rw [if_neg c1] at H
      refine j_aload_n (i := 0) (pc' := 8) dX2_shuffle_7 rfl rfl 0 rfl ?_
      obtain ⟨v2, e2, H⟩ := bs H
      refine j_getR (pc' := 11) dX2_shuffle_8 rfl fl_X2_9 e2 (fun r2 => ?_)
      refine j_iload_n (i := 3) (pc' := 12) dX2_shuffle_11 rfl rfl 3 rfl ?_
      refine j_iload_n (i := 3) (pc' := 13) dX2_shuffle_12 rfl rfl 3 rfl ?_
      obtain ⟨h3, e3, H⟩ := bs H
      refine j_iast (pc' := 14) dX2_shuffle_13 rfl rx3 e3 ?_
      obtain ⟨u4, e4, H⟩ := bs H
      have r4 := c32_R e4
      refine j_iinc (k0 := 3) (lv' := [(0, vr x0), (1, vi x1), (2, vi x2), (3, vi (x3 + 1))]) (pc' := 17) dX2_shuffle_14 rfl rfl (by decide) [1, 2, 3, 0] rfl ?_
      refine j_goto (tgt := 2) dX2_shuffle_17 (by decide) ?_
      exact ih x0 x1 x2 (x3 + 1) h3 rx1 rx2 r4 H
def fX2_shuffle (a0 : Nat) (a1 : Int) (a2 : Int) (h : Hp) : Option (Hp) :=
  fX2_shuffle_2 FU a0 a1 a2 0 h
theorem tX2_shuffle {L : Nat} {xs : Nat → Int32} {l : Launch} {res : Hp} (a0 : Nat) (a1 : Int) (a2 : Int) (h : Hp) (ra1 : R32 a1) (ra2 : R32 a2) (H : fX2_shuffle a0 a1 a2 h = some res) : J L xs l RX2 cX2_shuffle 7 false 1 (QV res) 0 0 0 (alv 0 [vr a0, vi a1, vi a2]) [] h := by
  unfold fX2_shuffle at H
  show J L xs l RX2 cX2_shuffle 7 false 1 (QV res) 0 0 0 [(0, vr a0), (1, vi a1), (2, vi a2)] [] h
  refine j_iconst (pc' := 1) dX2_shuffle_0 rfl ?_
  refine j_istore_n (i := 3) (lv' := [(0, vr a0), (1, vi a1), (2, vi a2), (3, vi 0)]) (pc' := 2) dX2_shuffle_1 rfl rfl (by decide) [1, 2, 3, 0] rfl ?_
  exact tX2_shuffle_2   FU a0 a1 a2 0 h ra1 ra2 ⟨by decide, by decide⟩ H
-- X7_pulls
def fX7_pulls_24 (s0 : Int) (h : Hp) : Option (Int × Hp) :=
  (cbo s0).bind fun _ => some (s0, h)
theorem tX7_pulls_24 {L : Nat} {xs : Nat → Int32} {l : Launch} {res : Int × Hp} (s0 : Int) (h : Hp) (rs0 : R32 s0) (H : fX7_pulls_24 s0 h = some res) : J L xs l RX7 cX7_pulls 3 false 2 (QB res) 0 0 24 [] [vi s0] h := by
  unfold fX7_pulls_24 at H
  obtain ⟨u1, e1, H⟩ := bs H
  obtain rfl := Option.some.inj H
  exact j_iret dX7_pulls_24 rs0 ⟨rfl, rfl, cbo_R e1⟩
def fX7_pulls_23  (h : Hp) : Option (Int × Hp) :=
  fX7_pulls_24 0 h
theorem tX7_pulls_23 {L : Nat} {xs : Nat → Int32} {l : Launch} {res : Int × Hp}  (h : Hp)  (H : fX7_pulls_23  h = some res) : J L xs l RX7 cX7_pulls 3 false 2 (QB res) 0 0 23 [] [] h := by
  unfold fX7_pulls_23 at H
  refine j_iconst (pc' := 24) dX7_pulls_23 rfl ?_
  exact tX7_pulls_24   0 h ⟨by decide, by decide⟩ H
def fX7_pulls (a0 : Nat) (a1 : Int) (a2 : Int) (h : Hp) : Option (Int × Hp) :=
  (cob h 6 a0).bind fun _ => (fX7_weightOf a0 a1 a2 h).bind fun p2 => if p2.1 ≤ 0 then (fX7_pulls_23 p2.2) else ((cob p2.2 6 a0).bind fun _ => (fX7_likeOf a0 a1 a2 p2.2).bind fun p5 => if p5.1 = 1 then (fX7_pulls_24 1 p5.2) else (fX7_pulls_23 p5.2))
theorem tX7_pulls {L : Nat} {xs : Nat → Int32} {l : Launch} {res : Int × Hp} (a0 : Nat) (a1 : Int) (a2 : Int) (h : Hp) (ra1 : R32 a1) (ra2 : R32 a2) (H : fX7_pulls a0 a1 a2 h = some res) : J L xs l RX7 cX7_pulls 3 false 2 (QB res) 0 0 0 (alv 0 [vr a0, vi a1, vi a2]) [] h := by
  unfold fX7_pulls at H
  show J L xs l RX7 cX7_pulls 3 false 2 (QB res) 0 0 0 [(0, vr a0), (1, vi a1), (2, vi a2)] [] h
  refine j_aload_n (i := 0) (pc' := 1) dX7_pulls_0 rfl rfl 0 rfl ?_
  refine j_iload_n (i := 1) (pc' := 2) dX7_pulls_1 rfl rfl 1 rfl ?_
  refine j_iload_n (i := 2) (pc' := 3) dX7_pulls_2 rfl rfl 2 rfl ?_
  obtain ⟨u1, e1, H⟩ := bs H
  obtain ⟨p2, e2, H⟩ := bs H
  refine j_cVi (y := yX7_weightOf) (dY := 1) (vs := [vi a1, vi a2]) (st := []) (q := a0) (pc' := 6) dX7_pulls_3 rfl ymX7_weightOf yvX7_weightOf ml_X7_55 (by decide) rfl (Nat.le_of_ble_eq_true rfl) (Nat.le_of_ble_eq_true rfl) e1 (tX7_weightOf a0 a1 a2 h ra1 ra2 e2) (fun r2 z2 => ?_)
  refine j_if_le (tgt := 23) (pc' := 9) dX7_pulls_6 (by decide) rfl r2 (fun c3 => ?_) (fun c3 => ?_)
  · rw [if_pos c3] at H
    refine j_sub (lv' := []) [] rfl ?_
    exact tX7_pulls_23   p2.2  H
  · rw [if_neg c3] at H
    refine j_aload_n (i := 0) (pc' := 10) dX7_pulls_9 rfl rfl 0 rfl ?_
    refine j_iload_n (i := 1) (pc' := 11) dX7_pulls_10 rfl rfl 1 rfl ?_
    refine j_iload_n (i := 2) (pc' := 12) dX7_pulls_11 rfl rfl 2 rfl ?_
    obtain ⟨u4, e4, H⟩ := bs H
    obtain ⟨p5, e5, H⟩ := bs H
    refine j_cVi (y := yX7_likeOf) (dY := 1) (vs := [vi a1, vi a2]) (st := []) (q := a0) (pc' := 15) dX7_pulls_12 rfl ymX7_likeOf yvX7_likeOf ml_X7_59 (by decide) rfl (Nat.le_of_ble_eq_true rfl) (Nat.le_of_ble_eq_true rfl) e4 (tX7_likeOf a0 a1 a2 p2.2 ra1 ra2 e5) (fun r5 z5 => ?_)
    refine j_iconst (pc' := 16) dX7_pulls_15 rfl ?_
    refine j_icmp_ne (tgt := 23) (pc' := 19) dX7_pulls_16 (by decide) rfl r5 ⟨by decide, by decide⟩ (fun c6 => ?_) (fun c6 => ?_)
    · rw [if_neg c6] at H
      refine j_sub (lv' := []) [] rfl ?_
      exact tX7_pulls_23   p5.2  H
    · rw [if_pos c6] at H
      refine j_iconst (pc' := 20) dX7_pulls_19 rfl ?_
      refine j_goto (tgt := 24) dX7_pulls_20 (by decide) ?_
      refine j_sub (lv' := []) [] rfl ?_
      exact tX7_pulls_24   1 p5.2 ⟨by decide, by decide⟩ H
