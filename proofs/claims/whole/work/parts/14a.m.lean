-- X7_likeOf
noncomputable def fX7_likeOf (a0 : Nat) (a1 : Int) (a2 : Int) (h : Hp) : Option (Int × Hp) :=
  (getR h 6 a0 4).bind fun v1 => (ald h 0 v1 ((a1 * 12) + a2)).bind fun v2 => some (v2, h)
theorem tX7_likeOf {L : Nat} {xs : Nat → Int32} {l : Launch} {res : Int × Hp} (a0 : Nat) (a1 : Int) (a2 : Int) (h : Hp) (ra1 : R32 a1) (ra2 : R32 a2) (H : fX7_likeOf a0 a1 a2 h = some res) : J L xs l RX7 cX7_likeOf 3 false 1 (QI res) 0 0 0 (alv 0 [vr a0, vi a1, vi a2]) [] h := by
  unfold fX7_likeOf at H
  show J L xs l RX7 cX7_likeOf 3 false 1 (QI res) 0 0 0 [(0, vr a0), (1, vi a1), (2, vi a2)] [] h
  refine j_aload_n (i := 0) (pc' := 1) dX7_likeOf_0 rfl rfl 0 rfl ?_
  obtain ⟨v1, e1, H⟩ := bs H
  refine j_getR (pc' := 4) dX7_likeOf_1 rfl fl_X7_25 e1 (fun r1 => ?_)
  refine j_iload_n (i := 1) (pc' := 5) dX7_likeOf_4 rfl rfl 1 rfl ?_
  refine j_bipush (pc' := 7) dX7_likeOf_5 rfl (by decide +kernel) ?_
  refine j_imul (pc' := 8) dX7_likeOf_7 rfl ?_
  refine j_iload_n (i := 2) (pc' := 9) dX7_likeOf_8 rfl rfl 2 rfl ?_
  refine j_iadd (pc' := 10) dX7_likeOf_9 rfl ?_
  obtain ⟨v2, e2, H⟩ := bs H
  refine j_iald (pc' := 11) dX7_likeOf_10 rfl e2 (fun r2 => ?_)
  obtain rfl := Option.some.inj H
  exact j_iret dX7_likeOf_11 r2 ⟨rfl, rfl⟩
-- X7_weightOf
noncomputable def fX7_weightOf (a0 : Nat) (a1 : Int) (a2 : Int) (h : Hp) : Option (Int × Hp) :=
  (getR h 6 a0 3).bind fun v1 => (ald h 0 v1 ((a1 * 12) + a2)).bind fun v2 => some (v2, h)
theorem tX7_weightOf {L : Nat} {xs : Nat → Int32} {l : Launch} {res : Int × Hp} (a0 : Nat) (a1 : Int) (a2 : Int) (h : Hp) (ra1 : R32 a1) (ra2 : R32 a2) (H : fX7_weightOf a0 a1 a2 h = some res) : J L xs l RX7 cX7_weightOf 3 false 1 (QI res) 0 0 0 (alv 0 [vr a0, vi a1, vi a2]) [] h := by
  unfold fX7_weightOf at H
  show J L xs l RX7 cX7_weightOf 3 false 1 (QI res) 0 0 0 [(0, vr a0), (1, vi a1), (2, vi a2)] [] h
  refine j_aload_n (i := 0) (pc' := 1) dX7_weightOf_0 rfl rfl 0 rfl ?_
  obtain ⟨v1, e1, H⟩ := bs H
  refine j_getR (pc' := 4) dX7_weightOf_1 rfl fl_X7_22 e1 (fun r1 => ?_)
  refine j_iload_n (i := 1) (pc' := 5) dX7_weightOf_4 rfl rfl 1 rfl ?_
  refine j_bipush (pc' := 7) dX7_weightOf_5 rfl (by decide +kernel) ?_
  refine j_imul (pc' := 8) dX7_weightOf_7 rfl ?_
  refine j_iload_n (i := 2) (pc' := 9) dX7_weightOf_8 rfl rfl 2 rfl ?_
  refine j_iadd (pc' := 10) dX7_weightOf_9 rfl ?_
  obtain ⟨v2, e2, H⟩ := bs H
  refine j_iald (pc' := 11) dX7_weightOf_10 rfl e2 (fun r2 => ?_)
  obtain rfl := Option.some.inj H
  exact j_iret dX7_weightOf_11 r2 ⟨rfl, rfl⟩
-- X0_ground
noncomputable def fX0_ground_62 (x2 : Int) (h : Hp) : Option (Int × Hp) :=
  some (x2, h)
theorem tX0_ground_62 {L : Nat} {xs : Nat → Int32} {l : Launch} {res : Int × Hp} (x2 : Int) (h : Hp) (rx2 : R64 x2) (H : fX0_ground_62 x2 h = some res) : J L xs l RX0 cX0_ground 6 false 2 (QL res) 0 0 62 [(2, vl x2)] [] h := by
  unfold fX0_ground_62 at H
  refine j_lload_n (i := 2) (pc' := 63) dX0_ground_62 rfl rfl 0 rfl ?_
  obtain rfl := Option.some.inj H
  exact j_lret dX0_ground_63 rx2 ⟨rfl, rfl⟩
noncomputable def fX0_ground_56 (k5 : Nat → Int → Int → Int → Hp → Option (Int × Hp)) (x0 : Nat) (x1 : Int) (x2 : Int) (x4 : Int) (h : Hp) : Option (Int × Hp) :=
  (c32 (x4 + 1)).bind fun _ => k5 x0 x1 x2 (x4 + 1) h
theorem tX0_ground_56 {L : Nat} {xs : Nat → Int32} {l : Launch} {res : Int × Hp} (k5 : Nat → Int → Int → Int → Hp → Option (Int × Hp)) (hk5 : ∀ (x0 : Nat) (x1 : Int) (x2 : Int) (x4 : Int) (h : Hp), R32 x1 → R64 x2 → R32 x4 → k5 x0 x1 x2 x4 h = some res → J L xs l RX0 cX0_ground 6 false 2 (QL res) 0 0 5 [(0, vr x0), (1, vi x1), (2, vl x2), (4, vi x4)] [] h) (x0 : Nat) (x1 : Int) (x2 : Int) (x4 : Int) (h : Hp) (rx1 : R32 x1) (rx2 : R64 x2) (rx4 : R32 x4) (H : fX0_ground_56 k5 x0 x1 x2 x4 h = some res) : J L xs l RX0 cX0_ground 6 false 2 (QL res) 0 0 56 [(0, vr x0), (1, vi x1), (2, vl x2), (4, vi x4)] [] h := by
  unfold fX0_ground_56 at H
  obtain ⟨u1, e1, H⟩ := bs H
  have r1 := c32_R e1
  refine j_iinc (k0 := 3) (lv' := [(0, vr x0), (1, vi x1), (2, vl x2), (4, vi (x4 + 1))]) (pc' := 59) dX0_ground_56 rfl rfl (by decide) [1, 2, 3, 0] rfl ?_
  refine j_goto (tgt := 5) dX0_ground_59 (by decide) ?_
  exact hk5 x0 x1 x2 (x4 + 1) h rx1 rx2 r1 H
noncomputable def fX0_ground_22 (k5 : Nat → Int → Int → Int → Hp → Option (Int × Hp)) : Nat → Nat → Int → Int → Int → Int → Hp → Option (Int × Hp)
  | 0, _, _, _, _, _, _ => none
  | n + 1, x0, x1, x2, x4, x5, h => if x4 ≤ x5 then (fX0_ground_56 k5 x0 x1 x2 x4 h) else ((cob h 6 x0).bind fun _ => (fX7_likeOf x0 x4 x5 h).bind fun p3 => (cob p3.2 6 x0).bind fun _ => (fX7_weightOf x0 x4 x5 p3.2).bind fun p5 => (c32 (p3.1 * p5.1)).bind fun _ => (c64 (x2 + (p3.1 * p5.1))).bind fun _ => (c32 (x5 + 1)).bind fun _ => fX0_ground_22 k5 n x0 x1 (x2 + (p3.1 * p5.1)) x4 (x5 + 1) p5.2)
theorem tX0_ground_22 {L : Nat} {xs : Nat → Int32} {l : Launch} {res : Int × Hp} (k5 : Nat → Int → Int → Int → Hp → Option (Int × Hp)) (hk5 : ∀ (x0 : Nat) (x1 : Int) (x2 : Int) (x4 : Int) (h : Hp), R32 x1 → R64 x2 → R32 x4 → k5 x0 x1 x2 x4 h = some res → J L xs l RX0 cX0_ground 6 false 2 (QL res) 0 0 5 [(0, vr x0), (1, vi x1), (2, vl x2), (4, vi x4)] [] h) : ∀ (n : Nat) (x0 : Nat) (x1 : Int) (x2 : Int) (x4 : Int) (x5 : Int) (h : Hp), R32 x1 → R64 x2 → R32 x4 → R32 x5 → fX0_ground_22 k5 n x0 x1 x2 x4 x5 h = some res → J L xs l RX0 cX0_ground 6 false 2 (QL res) 0 0 22 [(0, vr x0), (1, vi x1), (2, vl x2), (4, vi x4), (5, vi x5)] [] h := by
  intro n
  induction n with
  | zero => intro x0 x1 x2 x4 x5 h rx1 rx2 rx4 rx5 H; cases H
  | succ n ih =>
    intro x0 x1 x2 x4 x5 h rx1 rx2 rx4 rx5 H
    rw [fX0_ground_22] at H
    refine j_iload (pc' := 24) dX0_ground_22 rfl 4 rfl ?_
    refine j_iload (pc' := 26) dX0_ground_24 rfl 3 rfl ?_
    refine j_icmp_ge (tgt := 56) (pc' := 29) dX0_ground_26 (by decide) rfl rx5 rx4 (fun c1 => ?_) (fun c1 => ?_)
    · rw [if_pos c1] at H
      refine j_sub (lv' := [(0, vr x0), (1, vi x1), (2, vl x2), (4, vi x4)]) [0, 1, 2, 3] rfl ?_
      exact tX0_ground_56 _ hk5 x0 x1 x2 x4 h rx1 rx2 rx4 H
    · rw [if_neg c1] at H
      refine j_lload_n (i := 2) (pc' := 30) dX0_ground_29 rfl rfl 2 rfl ?_
      refine j_aload_n (i := 0) (pc' := 31) dX0_ground_30 rfl rfl 0 rfl ?_
      refine j_iload (pc' := 33) dX0_ground_31 rfl 3 rfl ?_
      refine j_iload (pc' := 35) dX0_ground_33 rfl 4 rfl ?_
      obtain ⟨u2, e2, H⟩ := bs H
      obtain ⟨p3, e3, H⟩ := bs H
      refine j_cVi (y := yX7_likeOf) (dY := 1) (vs := [vi x4, vi x5]) (st := [vl x2]) (q := x0) (pc' := 38) dX0_ground_35 rfl ymX7_likeOf yvX7_likeOf ml_X0_38 (by decide) rfl (Nat.le_of_ble_eq_true rfl) (Nat.le_of_ble_eq_true rfl) e2 (tX7_likeOf x0 x4 x5 h rx4 rx5 e3) (fun r3 z3 => ?_)
      refine j_aload_n (i := 0) (pc' := 39) dX0_ground_38 rfl rfl 0 rfl ?_
      refine j_iload (pc' := 41) dX0_ground_39 rfl 3 rfl ?_
      refine j_iload (pc' := 43) dX0_ground_41 rfl 4 rfl ?_
      obtain ⟨u4, e4, H⟩ := bs H
      obtain ⟨p5, e5, H⟩ := bs H
      refine j_cVi (y := yX7_weightOf) (dY := 1) (vs := [vi x4, vi x5]) (st := [vi p3.1, vl x2]) (q := x0) (pc' := 46) dX0_ground_43 rfl ymX7_weightOf yvX7_weightOf ml_X0_42 (by decide) rfl (Nat.le_of_ble_eq_true rfl) (Nat.le_of_ble_eq_true rfl) e4 (tX7_weightOf x0 x4 x5 p3.2 rx4 rx5 e5) (fun r5 z5 => ?_)
      refine j_imul (pc' := 47) dX0_ground_46 rfl ?_
      obtain ⟨u6, e6, H⟩ := bs H
      have r6 := c32_R e6
      refine j_i2l (pc' := 48) dX0_ground_47 rfl r6 ?_
      refine j_ladd (pc' := 49) dX0_ground_48 rfl ?_
      obtain ⟨u7, e7, H⟩ := bs H
      have r7 := c64_R e7
      refine j_lstore_n (i := 2) (lv' := [(0, vr x0), (1, vi x1), (2, vl (x2 + (p3.1 * p5.1))), (4, vi x4), (5, vi x5)]) (pc' := 50) dX0_ground_49 rfl rfl (by decide) [1, 2, 0, 3, 4] rfl ?_
      obtain ⟨u8, e8, H⟩ := bs H
      have r8 := c32_R e8
      refine j_iinc (k0 := 4) (lv' := [(0, vr x0), (1, vi x1), (2, vl (x2 + (p3.1 * p5.1))), (4, vi x4), (5, vi (x5 + 1))]) (pc' := 53) dX0_ground_50 rfl rfl (by decide) [1, 2, 3, 4, 0] rfl ?_
      refine j_goto (tgt := 22) dX0_ground_53 (by decide) ?_
      exact ih x0 x1 (x2 + (p3.1 * p5.1)) x4 (x5 + 1) p5.2 rx1 r7 rx4 r8 H
noncomputable def fX0_ground_5 : Nat → Nat → Int → Int → Int → Hp → Option (Int × Hp)
  | 0, _, _, _, _, _ => none
  | n + 1, x0, x1, x2, x4, h => (getI h 6 x0 0).bind fun v1 => if v1 ≤ x4 then (fX0_ground_62 x2 h) else (if x1 = 3 then (fX0_ground_22 (fX0_ground_5 n) FU x0 x1 x2 x4 0 h) else (fX0_ground_62 x2 h))
theorem tX0_ground_5 {L : Nat} {xs : Nat → Int32} {l : Launch} {res : Int × Hp} : ∀ (n : Nat) (x0 : Nat) (x1 : Int) (x2 : Int) (x4 : Int) (h : Hp), R32 x1 → R64 x2 → R32 x4 → fX0_ground_5 n x0 x1 x2 x4 h = some res → J L xs l RX0 cX0_ground 6 false 2 (QL res) 0 0 5 [(0, vr x0), (1, vi x1), (2, vl x2), (4, vi x4)] [] h := by
  intro n
  induction n with
  | zero => intro x0 x1 x2 x4 h rx1 rx2 rx4 H; cases H
  | succ n ih =>
    intro x0 x1 x2 x4 h rx1 rx2 rx4 H
    rw [fX0_ground_5] at H
    refine j_iload (pc' := 7) dX0_ground_5 rfl 3 rfl ?_
    refine j_aload_n (i := 0) (pc' := 8) dX0_ground_7 rfl rfl 0 rfl ?_
    obtain ⟨v1, e1, H⟩ := bs H
    refine j_getI (pc' := 11) dX0_ground_8 rfl fl_X0_33 e1 (fun r1 => ?_)
    refine j_icmp_ge (tgt := 62) (pc' := 14) dX0_ground_11 (by decide) rfl rx4 r1 (fun c2 => ?_) (fun c2 => ?_)
    · rw [if_pos c2] at H
      refine j_sub (lv' := [(2, vl x2)]) [2] rfl ?_
      exact tX0_ground_62   x2 h rx2 H
    · rw [if_neg c2] at H
      refine j_iload_n (i := 1) (pc' := 15) dX0_ground_14 rfl rfl 1 rfl ?_
      refine j_iconst (pc' := 16) dX0_ground_15 rfl ?_
      refine j_icmp_ne (tgt := 62) (pc' := 19) dX0_ground_16 (by decide) rfl rx1 ⟨by decide, by decide⟩ (fun c3 => ?_) (fun c3 => ?_)
      · rw [if_neg c3] at H
        refine j_sub (lv' := [(2, vl x2)]) [2] rfl ?_
        exact tX0_ground_62   x2 h rx2 H
      · rw [if_pos c3] at H
        refine j_iconst (pc' := 20) dX0_ground_19 rfl ?_
        refine j_istore (lv' := [(0, vr x0), (1, vi x1), (2, vl x2), (4, vi x4), (5, vi 0)]) (pc' := 22) dX0_ground_20 rfl (by decide) [1, 2, 3, 4, 0] rfl ?_
        exact tX0_ground_22 _ ih FU x0 x1 x2 x4 0 h rx1 rx2 rx4 ⟨by decide, by decide⟩ H
noncomputable def fX0_ground (a0 : Nat) (a1 : Int) (h : Hp) : Option (Int × Hp) :=
  fX0_ground_5 FU a0 a1 0 1 h
theorem tX0_ground {L : Nat} {xs : Nat → Int32} {l : Launch} {res : Int × Hp} (a0 : Nat) (a1 : Int) (h : Hp) (ra1 : R32 a1) (H : fX0_ground a0 a1 h = some res) : J L xs l RX0 cX0_ground 6 false 2 (QL res) 0 0 0 (alv 0 [vr a0, vi a1]) [] h := by
  unfold fX0_ground at H
  show J L xs l RX0 cX0_ground 6 false 2 (QL res) 0 0 0 [(0, vr a0), (1, vi a1)] [] h
  refine j_lconst (z := 0) (pc' := 1) dX0_ground_0 rfl rfl ?_
  refine j_lstore_n (i := 2) (lv' := [(0, vr a0), (1, vi a1), (2, vl 0)]) (pc' := 2) dX0_ground_1 rfl rfl (by decide) [1, 2, 0] rfl ?_
  refine j_iconst (pc' := 3) dX0_ground_2 rfl ?_
  refine j_istore (lv' := [(0, vr a0), (1, vi a1), (2, vl 0), (4, vi 1)]) (pc' := 5) dX0_ground_3 rfl (by decide) [1, 2, 3, 0] rfl ?_
  exact tX0_ground_5   FU a0 a1 0 1 h ra1 ⟨by decide, by decide⟩ ⟨by decide, by decide⟩ H
-- X6_membersOf
noncomputable def fX6_membersOf_34 (x2 : Int) (h : Hp) : Option (Int × Hp) :=
  some (x2, h)
theorem tX6_membersOf_34 {L : Nat} {xs : Nat → Int32} {l : Launch} {res : Int × Hp} (x2 : Int) (h : Hp) (rx2 : R32 x2) (H : fX6_membersOf_34 x2 h = some res) : J L xs l RX6 cX6_membersOf 4 false 1 (QI res) 0 0 34 [(2, vi x2)] [] h := by
  unfold fX6_membersOf_34 at H
  refine j_iload_n (i := 2) (pc' := 35) dX6_membersOf_34 rfl rfl 0 rfl ?_
  obtain rfl := Option.some.inj H
  exact j_iret dX6_membersOf_35 rx2 ⟨rfl, rfl⟩
noncomputable def fX6_membersOf_28 (k4 : Nat → Int → Int → Int → Hp → Option (Int × Hp)) (x0 : Nat) (x1 : Int) (x2 : Int) (x3 : Int) (h : Hp) : Option (Int × Hp) :=
  (c32 (x3 + 1)).bind fun _ => k4 x0 x1 x2 (x3 + 1) h
theorem tX6_membersOf_28 {L : Nat} {xs : Nat → Int32} {l : Launch} {res : Int × Hp} (k4 : Nat → Int → Int → Int → Hp → Option (Int × Hp)) (hk4 : ∀ (x0 : Nat) (x1 : Int) (x2 : Int) (x3 : Int) (h : Hp), R32 x1 → R32 x2 → R32 x3 → k4 x0 x1 x2 x3 h = some res → J L xs l RX6 cX6_membersOf 4 false 1 (QI res) 0 0 4 [(0, vr x0), (1, vi x1), (2, vi x2), (3, vi x3)] [] h) (x0 : Nat) (x1 : Int) (x2 : Int) (x3 : Int) (h : Hp) (rx1 : R32 x1) (rx2 : R32 x2) (rx3 : R32 x3) (H : fX6_membersOf_28 k4 x0 x1 x2 x3 h = some res) : J L xs l RX6 cX6_membersOf 4 false 1 (QI res) 0 0 28 [(0, vr x0), (1, vi x1), (2, vi x2), (3, vi x3)] [] h := by
  unfold fX6_membersOf_28 at H
  obtain ⟨u1, e1, H⟩ := bs H
  have r1 := c32_R e1
  refine j_iinc (k0 := 3) (lv' := [(0, vr x0), (1, vi x1), (2, vi x2), (3, vi (x3 + 1))]) (pc' := 31) dX6_membersOf_28 rfl rfl (by decide) [1, 2, 3, 0] rfl ?_
  refine j_goto (tgt := 4) dX6_membersOf_31 (by decide) ?_
  exact hk4 x0 x1 x2 (x3 + 1) h rx1 rx2 r1 H
noncomputable def fX6_membersOf_4 : Nat → Nat → Int → Int → Int → Hp → Option (Int × Hp)
  | 0, _, _, _, _, _ => none
  | n + 1, x0, x1, x2, x3, h => (getI h 5 x0 0).bind fun v1 => if v1 ≤ x3 then (fX6_membersOf_34 x2 h) else ((getR h 5 x0 2).bind fun v3 => (ald h 0 v3 x3).bind fun v4 => if v4 = x1 then (fX6_membersOf_28 (fX6_membersOf_4 n) x0 x1 (bOr x2 (bShl 1 x3)) x3 h) else (fX6_membersOf_28 (fX6_membersOf_4 n) x0 x1 x2 x3 h))
theorem tX6_membersOf_4 {L : Nat} {xs : Nat → Int32} {l : Launch} {res : Int × Hp} : ∀ (n : Nat) (x0 : Nat) (x1 : Int) (x2 : Int) (x3 : Int) (h : Hp), R32 x1 → R32 x2 → R32 x3 → fX6_membersOf_4 n x0 x1 x2 x3 h = some res → J L xs l RX6 cX6_membersOf 4 false 1 (QI res) 0 0 4 [(0, vr x0), (1, vi x1), (2, vi x2), (3, vi x3)] [] h := by
  intro n
  induction n with
  | zero => intro x0 x1 x2 x3 h rx1 rx2 rx3 H; cases H
  | succ n ih =>
    intro x0 x1 x2 x3 h rx1 rx2 rx3 H
    rw [fX6_membersOf_4] at H
    refine j_iload_n (i := 3) (pc' := 5) dX6_membersOf_4 rfl rfl 3 rfl ?_
    refine j_aload_n (i := 0) (pc' := 6) dX6_membersOf_5 rfl rfl 0 rfl ?_
    obtain ⟨v1, e1, H⟩ := bs H
    refine j_getI (pc' := 9) dX6_membersOf_6 rfl fl_X6_9 e1 (fun r1 => ?_)
    refine j_icmp_ge (tgt := 34) (pc' := 12) dX6_membersOf_9 (by decide) rfl rx3 r1 (fun c2 => ?_) (fun c2 => ?_)
    · rw [if_pos c2] at H
      refine j_sub (lv' := [(2, vi x2)]) [2] rfl ?_
      exact tX6_membersOf_34   x2 h rx2 H
    · rw [if_neg c2] at H
      refine j_aload_n (i := 0) (pc' := 13) dX6_membersOf_12 rfl rfl 0 rfl ?_
      obtain ⟨v3, e3, H⟩ := bs H
      refine j_getR (pc' := 16) dX6_membersOf_13 rfl fl_X6_18 e3 (fun r3 => ?_)
      refine j_iload_n (i := 3) (pc' := 17) dX6_membersOf_16 rfl rfl 3 rfl ?_
      obtain ⟨v4, e4, H⟩ := bs H
      refine j_iald (pc' := 18) dX6_membersOf_17 rfl e4 (fun r4 => ?_)
      refine j_iload_n (i := 1) (pc' := 19) dX6_membersOf_18 rfl rfl 1 rfl ?_
      refine j_icmp_ne (tgt := 28) (pc' := 22) dX6_membersOf_19 (by decide) rfl r4 rx1 (fun c5 => ?_) (fun c5 => ?_)
      · rw [if_neg c5] at H
        exact tX6_membersOf_28 _ ih x0 x1 x2 x3 h rx1 rx2 rx3 H
      · rw [if_pos c5] at H
        refine j_iload_n (i := 2) (pc' := 23) dX6_membersOf_22 rfl rfl 2 rfl ?_
        refine j_iconst (pc' := 24) dX6_membersOf_23 rfl ?_
        refine j_iload_n (i := 3) (pc' := 25) dX6_membersOf_24 rfl rfl 3 rfl ?_
        refine j_ishl (pc' := 26) dX6_membersOf_25 rfl ?_
        refine j_ior (pc' := 27) dX6_membersOf_26 rfl ?_
        refine j_istore_n (i := 2) (lv' := [(0, vr x0), (1, vi x1), (2, vi (bOr x2 (bShl 1 x3))), (3, vi x3)]) (pc' := 28) dX6_membersOf_27 rfl rfl (by decide) [1, 2, 0, 3] rfl ?_
        exact tX6_membersOf_28 _ ih x0 x1 (bOr x2 (bShl 1 x3)) x3 h rx1 (R32_to _) rx3 H
noncomputable def fX6_membersOf (a0 : Nat) (a1 : Int) (h : Hp) : Option (Int × Hp) :=
  fX6_membersOf_4 FU a0 a1 0 0 h
theorem tX6_membersOf {L : Nat} {xs : Nat → Int32} {l : Launch} {res : Int × Hp} (a0 : Nat) (a1 : Int) (h : Hp) (ra1 : R32 a1) (H : fX6_membersOf a0 a1 h = some res) : J L xs l RX6 cX6_membersOf 4 false 1 (QI res) 0 0 0 (alv 0 [vr a0, vi a1]) [] h := by
  unfold fX6_membersOf at H
  show J L xs l RX6 cX6_membersOf 4 false 1 (QI res) 0 0 0 [(0, vr a0), (1, vi a1)] [] h
  refine j_iconst (pc' := 1) dX6_membersOf_0 rfl ?_
  refine j_istore_n (i := 2) (lv' := [(0, vr a0), (1, vi a1), (2, vi 0)]) (pc' := 2) dX6_membersOf_1 rfl rfl (by decide) [1, 2, 0] rfl ?_
  refine j_iconst (pc' := 3) dX6_membersOf_2 rfl ?_
  refine j_istore_n (i := 3) (lv' := [(0, vr a0), (1, vi a1), (2, vi 0), (3, vi 0)]) (pc' := 4) dX6_membersOf_3 rfl rfl (by decide) [1, 2, 3, 0] rfl ?_
  exact tX6_membersOf_4   FU a0 a1 0 0 h ra1 ⟨by decide, by decide⟩ ⟨by decide, by decide⟩ H
-- X0_has
noncomputable def fX0_has_14 (s0 : Int) (h : Hp) : Option (Int × Hp) :=
  (cbo s0).bind fun _ => some (s0, h)
theorem tX0_has_14 {L : Nat} {xs : Nat → Int32} {l : Launch} {res : Int × Hp} (s0 : Int) (h : Hp) (rs0 : R32 s0) (H : fX0_has_14 s0 h = some res) : J L xs l RX0 cX0_has 2 false 1 (QB res) 0 0 14 [] [vi s0] h := by
  unfold fX0_has_14 at H
  obtain ⟨u1, e1, H⟩ := bs H
  obtain rfl := Option.some.inj H
  exact j_iret dX0_has_14 rs0 ⟨rfl, rfl, cbo_R e1⟩
noncomputable def fX0_has (a0 : Int) (a1 : Int) (h : Hp) : Option (Int × Hp) :=
  if (bAnd (bShr a0 a1) 1) = 1 then (fX0_has_14 1 h) else (fX0_has_14 0 h)
theorem tX0_has {L : Nat} {xs : Nat → Int32} {l : Launch} {res : Int × Hp} (a0 : Int) (a1 : Int) (h : Hp) (ra0 : R32 a0) (ra1 : R32 a1) (H : fX0_has a0 a1 h = some res) : J L xs l RX0 cX0_has 2 false 1 (QB res) 0 0 0 (alv 0 [vi a0, vi a1]) [] h := by
  unfold fX0_has at H
  show J L xs l RX0 cX0_has 2 false 1 (QB res) 0 0 0 [(0, vi a0), (1, vi a1)] [] h
  refine j_iload_n (i := 0) (pc' := 1) dX0_has_0 rfl rfl 0 rfl ?_
  refine j_iload_n (i := 1) (pc' := 2) dX0_has_1 rfl rfl 1 rfl ?_
  refine j_ishr (pc' := 3) dX0_has_2 rfl ?_
  refine j_iconst (pc' := 4) dX0_has_3 rfl ?_
  refine j_iand (pc' := 5) dX0_has_4 rfl ?_
  refine j_iconst (pc' := 6) dX0_has_5 rfl ?_
  refine j_icmp_ne (tgt := 13) (pc' := 9) dX0_has_6 (by decide) rfl (R32_to _) ⟨by decide, by decide⟩ (fun c1 => ?_) (fun c1 => ?_)
  · rw [if_neg c1] at H
    refine j_iconst (pc' := 14) dX0_has_13 rfl ?_
    refine j_sub (lv' := []) [] rfl ?_
    exact tX0_has_14   0 h ⟨by decide, by decide⟩ H
  · rw [if_pos c1] at H
    refine j_iconst (pc' := 10) dX0_has_9 rfl ?_
    refine j_goto (tgt := 14) dX0_has_10 (by decide) ?_
    refine j_sub (lv' := []) [] rfl ?_
    exact tX0_has_14   1 h ⟨by decide, by decide⟩ H
-- X7_wayOf
noncomputable def fX7_wayOf (a0 : Nat) (a1 : Int) (a2 : Int) (h : Hp) : Option (Int × Hp) :=
  (getR h 6 a0 2).bind fun v1 => (ald h 0 v1 ((a1 * 12) + a2)).bind fun v2 => some (v2, h)
theorem tX7_wayOf {L : Nat} {xs : Nat → Int32} {l : Launch} {res : Int × Hp} (a0 : Nat) (a1 : Int) (a2 : Int) (h : Hp) (ra1 : R32 a1) (ra2 : R32 a2) (H : fX7_wayOf a0 a1 a2 h = some res) : J L xs l RX7 cX7_wayOf 3 false 1 (QI res) 0 0 0 (alv 0 [vr a0, vi a1, vi a2]) [] h := by
  unfold fX7_wayOf at H
  show J L xs l RX7 cX7_wayOf 3 false 1 (QI res) 0 0 0 [(0, vr a0), (1, vi a1), (2, vi a2)] [] h
  refine j_aload_n (i := 0) (pc' := 1) dX7_wayOf_0 rfl rfl 0 rfl ?_
  obtain ⟨v1, e1, H⟩ := bs H
  refine j_getR (pc' := 4) dX7_wayOf_1 rfl fl_X7_19 e1 (fun r1 => ?_)
  refine j_iload_n (i := 1) (pc' := 5) dX7_wayOf_4 rfl rfl 1 rfl ?_
  refine j_bipush (pc' := 7) dX7_wayOf_5 rfl (by decide +kernel) ?_
  refine j_imul (pc' := 8) dX7_wayOf_7 rfl ?_
  refine j_iload_n (i := 2) (pc' := 9) dX7_wayOf_8 rfl rfl 2 rfl ?_
  refine j_iadd (pc' := 10) dX7_wayOf_9 rfl ?_
  obtain ⟨v2, e2, H⟩ := bs H
  refine j_iald (pc' := 11) dX7_wayOf_10 rfl e2 (fun r2 => ?_)
  obtain rfl := Option.some.inj H
  exact j_iret dX7_wayOf_11 r2 ⟨rfl, rfl⟩
-- X0_spread
noncomputable def fX0_spread_100 (s0 : Int) (h : Hp) : Option (Int × Hp) :=
  some (s0, h)
theorem tX0_spread_100 {L : Nat} {xs : Nat → Int32} {l : Launch} {res : Int × Hp} (s0 : Int) (h : Hp) (rs0 : R64 s0) (H : fX0_spread_100 s0 h = some res) : J L xs l RX0 cX0_spread 9 false 2 (QL res) 0 0 100 [] [vl s0] h := by
  unfold fX0_spread_100 at H
  obtain rfl := Option.some.inj H
  exact j_lret dX0_spread_100 rs0 ⟨rfl, rfl⟩
noncomputable def fX0_spread_82 (x2 : Int) (x4 : Int) (h : Hp) : Option (Int × Hp) :=
  if x4 = 0 then (fX0_spread_100 0 h) else ((cnz x4).bind fun _ => fX0_spread_100 (lDiv (x2 * 27720) x4) h)
theorem tX0_spread_82 {L : Nat} {xs : Nat → Int32} {l : Launch} {res : Int × Hp} (x2 : Int) (x4 : Int) (h : Hp) (rx2 : R64 x2) (rx4 : R32 x4) (H : fX0_spread_82 x2 x4 h = some res) : J L xs l RX0 cX0_spread 9 false 2 (QL res) 0 0 82 [(2, vl x2), (4, vi x4)] [] h := by
  unfold fX0_spread_82 at H
  refine j_iload (pc' := 84) dX0_spread_82 rfl 1 rfl ?_
  refine j_if_ne (tgt := 91) (pc' := 87) dX0_spread_84 (by decide) rfl rx4 (fun c1 => ?_) (fun c1 => ?_)
  · rw [if_neg c1] at H
    refine j_lload_n (i := 2) (pc' := 92) dX0_spread_91 rfl rfl 0 rfl ?_
    refine j_ldc2 (z := 27720) (pc' := 95) dX0_spread_92 rfl kk_X0_74 (by decide +kernel) ?_
    refine j_lmul (pc' := 96) dX0_spread_95 rfl ?_
    refine j_iload (pc' := 98) dX0_spread_96 rfl 1 rfl ?_
    refine j_i2l (pc' := 99) dX0_spread_98 rfl rx4 ?_
    obtain ⟨u2, e2, H⟩ := bs H
    refine j_ldiv (pc' := 100) dX0_spread_99 rfl (R32_l rx4) (cnz_R e2) ?_
    refine j_sub (lv' := []) [] rfl ?_
    exact tX0_spread_100   (lDiv (x2 * 27720) x4) h (R64_to _) H
  · rw [if_pos c1] at H
    refine j_lconst (z := 0) (pc' := 88) dX0_spread_87 rfl rfl ?_
    refine j_goto (tgt := 100) dX0_spread_88 (by decide) ?_
    refine j_sub (lv' := []) [] rfl ?_
    exact tX0_spread_100   0 h ⟨by decide, by decide⟩ H
noncomputable def fX0_spread_76 (k8 : Nat → Int → Int → Int → Int → Hp → Option (Int × Hp)) (x0 : Nat) (x1 : Int) (x2 : Int) (x4 : Int) (x5 : Int) (h : Hp) : Option (Int × Hp) :=
  (c32 (x5 + 1)).bind fun _ => k8 x0 x1 x2 x4 (x5 + 1) h
theorem tX0_spread_76 {L : Nat} {xs : Nat → Int32} {l : Launch} {res : Int × Hp} (k8 : Nat → Int → Int → Int → Int → Hp → Option (Int × Hp)) (hk8 : ∀ (x0 : Nat) (x1 : Int) (x2 : Int) (x4 : Int) (x5 : Int) (h : Hp), R32 x1 → R64 x2 → R32 x4 → R32 x5 → k8 x0 x1 x2 x4 x5 h = some res → J L xs l RX0 cX0_spread 9 false 2 (QL res) 0 0 8 [(0, vr x0), (1, vi x1), (2, vl x2), (4, vi x4), (5, vi x5)] [] h) (x0 : Nat) (x1 : Int) (x2 : Int) (x4 : Int) (x5 : Int) (h : Hp) (rx1 : R32 x1) (rx2 : R64 x2) (rx4 : R32 x4) (rx5 : R32 x5) (H : fX0_spread_76 k8 x0 x1 x2 x4 x5 h = some res) : J L xs l RX0 cX0_spread 9 false 2 (QL res) 0 0 76 [(0, vr x0), (1, vi x1), (2, vl x2), (4, vi x4), (5, vi x5)] [] h := by
  unfold fX0_spread_76 at H
  obtain ⟨u1, e1, H⟩ := bs H
  have r1 := c32_R e1
  refine j_iinc (k0 := 4) (lv' := [(0, vr x0), (1, vi x1), (2, vl x2), (4, vi x4), (5, vi (x5 + 1))]) (pc' := 79) dX0_spread_76 rfl rfl (by decide) [1, 2, 3, 4, 0] rfl ?_
  refine j_goto (tgt := 8) dX0_spread_79 (by decide) ?_
  exact hk8 x0 x1 x2 x4 (x5 + 1) h rx1 rx2 rx4 r1 H
noncomputable def fX0_spread_70 (k8 : Nat → Int → Int → Int → Int → Hp → Option (Int × Hp)) (k35 : Nat → Int → Int → Int → Int → Int → Hp → Option (Int × Hp)) (x0 : Nat) (x1 : Int) (x2 : Int) (x4 : Int) (x5 : Int) (x6 : Int) (h : Hp) : Option (Int × Hp) :=
  (c32 (x6 + 1)).bind fun _ => k35 x0 x1 x2 x4 x5 (x6 + 1) h
theorem tX0_spread_70 {L : Nat} {xs : Nat → Int32} {l : Launch} {res : Int × Hp} (k8 : Nat → Int → Int → Int → Int → Hp → Option (Int × Hp)) (k35 : Nat → Int → Int → Int → Int → Int → Hp → Option (Int × Hp)) (hk8 : ∀ (x0 : Nat) (x1 : Int) (x2 : Int) (x4 : Int) (x5 : Int) (h : Hp), R32 x1 → R64 x2 → R32 x4 → R32 x5 → k8 x0 x1 x2 x4 x5 h = some res → J L xs l RX0 cX0_spread 9 false 2 (QL res) 0 0 8 [(0, vr x0), (1, vi x1), (2, vl x2), (4, vi x4), (5, vi x5)] [] h) (hk35 : ∀ (x0 : Nat) (x1 : Int) (x2 : Int) (x4 : Int) (x5 : Int) (x6 : Int) (h : Hp), R32 x1 → R64 x2 → R32 x4 → R32 x5 → R32 x6 → k35 x0 x1 x2 x4 x5 x6 h = some res → J L xs l RX0 cX0_spread 9 false 2 (QL res) 0 0 35 [(0, vr x0), (1, vi x1), (2, vl x2), (4, vi x4), (5, vi x5), (6, vi x6)] [] h) (x0 : Nat) (x1 : Int) (x2 : Int) (x4 : Int) (x5 : Int) (x6 : Int) (h : Hp) (rx1 : R32 x1) (rx2 : R64 x2) (rx4 : R32 x4) (rx5 : R32 x5) (rx6 : R32 x6) (H : fX0_spread_70 k8 k35 x0 x1 x2 x4 x5 x6 h = some res) : J L xs l RX0 cX0_spread 9 false 2 (QL res) 0 0 70 [(0, vr x0), (1, vi x1), (2, vl x2), (4, vi x4), (5, vi x5), (6, vi x6)] [] h := by
  unfold fX0_spread_70 at H
  obtain ⟨u1, e1, H⟩ := bs H
  have r1 := c32_R e1
  refine j_iinc (k0 := 5) (lv' := [(0, vr x0), (1, vi x1), (2, vl x2), (4, vi x4), (5, vi x5), (6, vi (x6 + 1))]) (pc' := 73) dX0_spread_70 rfl rfl (by decide) [1, 2, 3, 4, 5, 0] rfl ?_
  refine j_goto (tgt := 35) dX0_spread_73 (by decide) ?_
  exact hk35 x0 x1 x2 x4 x5 (x6 + 1) h rx1 rx2 rx4 rx5 r1 H
noncomputable def fX0_spread_35 (k8 : Nat → Int → Int → Int → Int → Hp → Option (Int × Hp)) : Nat → Nat → Int → Int → Int → Int → Int → Hp → Option (Int × Hp)
  | 0, _, _, _, _, _, _, _ => none
  | n + 1, x0, x1, x2, x4, x5, x6, h => if x5 ≤ x6 then (fX0_spread_76 k8 x0 x1 x2 x4 x5 h) else ((fX0_has x1 x6 h).bind fun p2 => if p2.1 = 0 then (fX0_spread_70 k8 (fX0_spread_35 k8 n) x0 x1 x2 x4 x5 x6 p2.2) else ((cob p2.2 6 x0).bind fun _ => (fX7_wayOf x0 x5 x6 p2.2).bind fun p5 => (c64 (x2 + (p5.1 * p5.1))).bind fun _ => fX0_spread_70 k8 (fX0_spread_35 k8 n) x0 x1 (x2 + (p5.1 * p5.1)) x4 x5 x6 p5.2))
theorem tX0_spread_35 {L : Nat} {xs : Nat → Int32} {l : Launch} {res : Int × Hp} (k8 : Nat → Int → Int → Int → Int → Hp → Option (Int × Hp)) (hk8 : ∀ (x0 : Nat) (x1 : Int) (x2 : Int) (x4 : Int) (x5 : Int) (h : Hp), R32 x1 → R64 x2 → R32 x4 → R32 x5 → k8 x0 x1 x2 x4 x5 h = some res → J L xs l RX0 cX0_spread 9 false 2 (QL res) 0 0 8 [(0, vr x0), (1, vi x1), (2, vl x2), (4, vi x4), (5, vi x5)] [] h) : ∀ (n : Nat) (x0 : Nat) (x1 : Int) (x2 : Int) (x4 : Int) (x5 : Int) (x6 : Int) (h : Hp), R32 x1 → R64 x2 → R32 x4 → R32 x5 → R32 x6 → fX0_spread_35 k8 n x0 x1 x2 x4 x5 x6 h = some res → J L xs l RX0 cX0_spread 9 false 2 (QL res) 0 0 35 [(0, vr x0), (1, vi x1), (2, vl x2), (4, vi x4), (5, vi x5), (6, vi x6)] [] h := by
  intro n
  induction n with
  | zero => intro x0 x1 x2 x4 x5 x6 h rx1 rx2 rx4 rx5 rx6 H; cases H
  | succ n ih =>
    intro x0 x1 x2 x4 x5 x6 h rx1 rx2 rx4 rx5 rx6 H
    rw [fX0_spread_35] at H
    refine j_iload (pc' := 37) dX0_spread_35 rfl 5 rfl ?_
    refine j_iload (pc' := 39) dX0_spread_37 rfl 4 rfl ?_
    refine j_icmp_ge (tgt := 76) (pc' := 42) dX0_spread_39 (by decide) rfl rx6 rx5 (fun c1 => ?_) (fun c1 => ?_)
    · rw [if_pos c1] at H
      refine j_sub (lv' := [(0, vr x0), (1, vi x1), (2, vl x2), (4, vi x4), (5, vi x5)]) [0, 1, 2, 3, 4] rfl ?_
      exact tX0_spread_76 _ hk8 x0 x1 x2 x4 x5 h rx1 rx2 rx4 rx5 H
    · rw [if_neg c1] at H
      refine j_iload_n (i := 1) (pc' := 43) dX0_spread_42 rfl rfl 1 rfl ?_
      refine j_iload (pc' := 45) dX0_spread_43 rfl 5 rfl ?_
      obtain ⟨p2, e2, H⟩ := bs H
      refine j_cSb (y := yX0_has) (dY := 1) (vs := [vi x1, vi x6]) (st := []) (pc' := 48) dX0_spread_45 rfl ymX0_has ysX0_has ml_X0_67 (by decide) rfl (Nat.le_of_ble_eq_true rfl) (Nat.le_of_ble_eq_true rfl) (tX0_has x1 x6 h rx1 rx6 e2) (fun r2 b2 z2 => ?_)
      refine j_if_eq (tgt := 70) (pc' := 51) dX0_spread_48 (by decide) rfl r2 (fun c3 => ?_) (fun c3 => ?_)
      · rw [if_pos c3] at H
        exact tX0_spread_70 _ _ hk8 ih x0 x1 x2 x4 x5 x6 p2.2 rx1 rx2 rx4 rx5 rx6 H
      · rw [if_neg c3] at H
        refine j_aload_n (i := 0) (pc' := 52) dX0_spread_51 rfl rfl 0 rfl ?_
        refine j_iload (pc' := 54) dX0_spread_52 rfl 4 rfl ?_
        refine j_iload (pc' := 56) dX0_spread_54 rfl 5 rfl ?_
        obtain ⟨u4, e4, H⟩ := bs H
        obtain ⟨p5, e5, H⟩ := bs H
        refine j_cVi (y := yX7_wayOf) (dY := 1) (vs := [vi x5, vi x6]) (st := []) (q := x0) (pc' := 59) dX0_spread_56 rfl ymX7_wayOf yvX7_wayOf ml_X0_71 (by decide) rfl (Nat.le_of_ble_eq_true rfl) (Nat.le_of_ble_eq_true rfl) e4 (tX7_wayOf x0 x5 x6 p2.2 rx5 rx6 e5) (fun r5 z5 => ?_)
        refine j_i2l (pc' := 60) dX0_spread_59 rfl r5 ?_
        refine j_lstore (lv' := [(0, vr x0), (1, vi x1), (2, vl x2), (4, vi x4), (5, vi x5), (6, vi x6), (7, vl p5.1)]) (pc' := 62) dX0_spread_60 rfl (by decide) [1, 2, 3, 4, 5, 6, 0] rfl ?_
        refine j_lload_n (i := 2) (pc' := 63) dX0_spread_62 rfl rfl 2 rfl ?_
        refine j_lload (pc' := 65) dX0_spread_63 rfl 6 rfl ?_
        refine j_lload (pc' := 67) dX0_spread_65 rfl 6 rfl ?_
        refine j_lmul (pc' := 68) dX0_spread_67 rfl ?_
        refine j_ladd (pc' := 69) dX0_spread_68 rfl ?_
        obtain ⟨u6, e6, H⟩ := bs H
        have r6 := c64_R e6
        refine j_lstore_n (i := 2) (lv' := [(0, vr x0), (1, vi x1), (2, vl (x2 + (p5.1 * p5.1))), (4, vi x4), (5, vi x5), (6, vi x6), (7, vl p5.1)]) (pc' := 70) dX0_spread_69 rfl rfl (by decide) [1, 2, 0, 3, 4, 5, 6] rfl ?_
        refine j_sub (lv' := [(0, vr x0), (1, vi x1), (2, vl (x2 + (p5.1 * p5.1))), (4, vi x4), (5, vi x5), (6, vi x6)]) [0, 1, 2, 3, 4, 5] rfl ?_
        exact tX0_spread_70 _ _ hk8 ih x0 x1 (x2 + (p5.1 * p5.1)) x4 x5 x6 p5.2 rx1 r6 rx4 rx5 rx6 H
noncomputable def fX0_spread_8 : Nat → Nat → Int → Int → Int → Int → Hp → Option (Int × Hp)
  | 0, _, _, _, _, _, _ => none
  | n + 1, x0, x1, x2, x4, x5, h => (getI h 6 x0 0).bind fun v1 => if v1 ≤ x5 then (fX0_spread_82 x2 x4 h) else ((fX0_has x1 x5 h).bind fun p3 => if p3.1 = 0 then (fX0_spread_76 (fX0_spread_8 n) x0 x1 x2 x4 x5 p3.2) else ((c32 (x4 + 1)).bind fun _ => fX0_spread_35 (fX0_spread_8 n) FU x0 x1 x2 (x4 + 1) x5 0 p3.2))
theorem tX0_spread_8 {L : Nat} {xs : Nat → Int32} {l : Launch} {res : Int × Hp} : ∀ (n : Nat) (x0 : Nat) (x1 : Int) (x2 : Int) (x4 : Int) (x5 : Int) (h : Hp), R32 x1 → R64 x2 → R32 x4 → R32 x5 → fX0_spread_8 n x0 x1 x2 x4 x5 h = some res → J L xs l RX0 cX0_spread 9 false 2 (QL res) 0 0 8 [(0, vr x0), (1, vi x1), (2, vl x2), (4, vi x4), (5, vi x5)] [] h := by
  intro n
  induction n with
  | zero => intro x0 x1 x2 x4 x5 h rx1 rx2 rx4 rx5 H; cases H
  | succ n ih =>
    intro x0 x1 x2 x4 x5 h rx1 rx2 rx4 rx5 H
    rw [fX0_spread_8] at H
    refine j_iload (pc' := 10) dX0_spread_8 rfl 4 rfl ?_
    refine j_aload_n (i := 0) (pc' := 11) dX0_spread_10 rfl rfl 0 rfl ?_
    obtain ⟨v1, e1, H⟩ := bs H
    refine j_getI (pc' := 14) dX0_spread_11 rfl fl_X0_33 e1 (fun r1 => ?_)
    refine j_icmp_ge (tgt := 82) (pc' := 17) dX0_spread_14 (by decide) rfl rx5 r1 (fun c2 => ?_) (fun c2 => ?_)
    · rw [if_pos c2] at H
      refine j_sub (lv' := [(2, vl x2), (4, vi x4)]) [2, 3] rfl ?_
      exact tX0_spread_82   x2 x4 h rx2 rx4 H
    · rw [if_neg c2] at H
      refine j_iload_n (i := 1) (pc' := 18) dX0_spread_17 rfl rfl 1 rfl ?_
      refine j_iload (pc' := 20) dX0_spread_18 rfl 4 rfl ?_
      obtain ⟨p3, e3, H⟩ := bs H
      refine j_cSb (y := yX0_has) (dY := 1) (vs := [vi x1, vi x5]) (st := []) (pc' := 23) dX0_spread_20 rfl ymX0_has ysX0_has ml_X0_67 (by decide) rfl (Nat.le_of_ble_eq_true rfl) (Nat.le_of_ble_eq_true rfl) (tX0_has x1 x5 h rx1 rx5 e3) (fun r3 b3 z3 => ?_)
      refine j_if_ne (tgt := 29) (pc' := 26) dX0_spread_23 (by decide) rfl r3 (fun c4 => ?_) (fun c4 => ?_)
      · rw [if_neg c4] at H
        obtain ⟨u5, e5, H⟩ := bs H
        have r5 := c32_R e5
        refine j_iinc (k0 := 3) (lv' := [(0, vr x0), (1, vi x1), (2, vl x2), (4, vi (x4 + 1)), (5, vi x5)]) (pc' := 32) dX0_spread_29 rfl rfl (by decide) [1, 2, 3, 0, 4] rfl ?_
        refine j_iconst (pc' := 33) dX0_spread_32 rfl ?_
        refine j_istore (lv' := [(0, vr x0), (1, vi x1), (2, vl x2), (4, vi (x4 + 1)), (5, vi x5), (6, vi 0)]) (pc' := 35) dX0_spread_33 rfl (by decide) [1, 2, 3, 4, 5, 0] rfl ?_
        exact tX0_spread_35 _ ih FU x0 x1 x2 (x4 + 1) x5 0 p3.2 rx1 rx2 r5 rx5 ⟨by decide, by decide⟩ H
      · rw [if_pos c4] at H
        refine j_goto (tgt := 76) dX0_spread_26 (by decide) ?_
        exact tX0_spread_76 _ ih x0 x1 x2 x4 x5 p3.2 rx1 rx2 rx4 rx5 H
noncomputable def fX0_spread (a0 : Nat) (a1 : Int) (h : Hp) : Option (Int × Hp) :=
  fX0_spread_8 FU a0 a1 0 0 0 h
theorem tX0_spread {L : Nat} {xs : Nat → Int32} {l : Launch} {res : Int × Hp} (a0 : Nat) (a1 : Int) (h : Hp) (ra1 : R32 a1) (H : fX0_spread a0 a1 h = some res) : J L xs l RX0 cX0_spread 9 false 2 (QL res) 0 0 0 (alv 0 [vr a0, vi a1]) [] h := by
  unfold fX0_spread at H
  show J L xs l RX0 cX0_spread 9 false 2 (QL res) 0 0 0 [(0, vr a0), (1, vi a1)] [] h
  refine j_lconst (z := 0) (pc' := 1) dX0_spread_0 rfl rfl ?_
  refine j_lstore_n (i := 2) (lv' := [(0, vr a0), (1, vi a1), (2, vl 0)]) (pc' := 2) dX0_spread_1 rfl rfl (by decide) [1, 2, 0] rfl ?_
  refine j_iconst (pc' := 3) dX0_spread_2 rfl ?_
  refine j_istore (lv' := [(0, vr a0), (1, vi a1), (2, vl 0), (4, vi 0)]) (pc' := 5) dX0_spread_3 rfl (by decide) [1, 2, 3, 0] rfl ?_
  refine j_iconst (pc' := 6) dX0_spread_5 rfl ?_
  refine j_istore (lv' := [(0, vr a0), (1, vi a1), (2, vl 0), (4, vi 0), (5, vi 0)]) (pc' := 8) dX0_spread_6 rfl (by decide) [1, 2, 3, 4, 0] rfl ?_
  exact tX0_spread_8   FU a0 a1 0 0 0 h ra1 ⟨by decide, by decide⟩ ⟨by decide, by decide⟩ ⟨by decide, by decide⟩ H
-- X0_sumFrom
noncomputable def fX0_sumFrom_44 (x3 : Int) (h : Hp) : Option (Int × Hp) :=
  some (x3, h)
theorem tX0_sumFrom_44 {L : Nat} {xs : Nat → Int32} {l : Launch} {res : Int × Hp} (x3 : Int) (h : Hp) (rx3 : R64 x3) (H : fX0_sumFrom_44 x3 h = some res) : J L xs l RX0 cX0_sumFrom 6 false 2 (QL res) 0 0 44 [(3, vl x3)] [] h := by
  unfold fX0_sumFrom_44 at H
  refine j_lload_n (i := 3) (pc' := 45) dX0_sumFrom_44 rfl rfl 0 rfl ?_
  obtain rfl := Option.some.inj H
  exact j_lret dX0_sumFrom_45 rx3 ⟨rfl, rfl⟩
noncomputable def fX0_sumFrom_38 (k5 : Nat → Int → Int → Int → Int → Hp → Option (Int × Hp)) (x0 : Nat) (x1 : Int) (x2 : Int) (x3 : Int) (x5 : Int) (h : Hp) : Option (Int × Hp) :=
  (c32 (x5 + 1)).bind fun _ => k5 x0 x1 x2 x3 (x5 + 1) h
theorem tX0_sumFrom_38 {L : Nat} {xs : Nat → Int32} {l : Launch} {res : Int × Hp} (k5 : Nat → Int → Int → Int → Int → Hp → Option (Int × Hp)) (hk5 : ∀ (x0 : Nat) (x1 : Int) (x2 : Int) (x3 : Int) (x5 : Int) (h : Hp), R32 x1 → R32 x2 → R64 x3 → R32 x5 → k5 x0 x1 x2 x3 x5 h = some res → J L xs l RX0 cX0_sumFrom 6 false 2 (QL res) 0 0 5 [(0, vr x0), (1, vi x1), (2, vi x2), (3, vl x3), (5, vi x5)] [] h) (x0 : Nat) (x1 : Int) (x2 : Int) (x3 : Int) (x5 : Int) (h : Hp) (rx1 : R32 x1) (rx2 : R32 x2) (rx3 : R64 x3) (rx5 : R32 x5) (H : fX0_sumFrom_38 k5 x0 x1 x2 x3 x5 h = some res) : J L xs l RX0 cX0_sumFrom 6 false 2 (QL res) 0 0 38 [(0, vr x0), (1, vi x1), (2, vi x2), (3, vl x3), (5, vi x5)] [] h := by
  unfold fX0_sumFrom_38 at H
  obtain ⟨u1, e1, H⟩ := bs H
  have r1 := c32_R e1
  refine j_iinc (k0 := 4) (lv' := [(0, vr x0), (1, vi x1), (2, vi x2), (3, vl x3), (5, vi (x5 + 1))]) (pc' := 41) dX0_sumFrom_38 rfl rfl (by decide) [1, 2, 3, 4, 0] rfl ?_
  refine j_goto (tgt := 5) dX0_sumFrom_41 (by decide) ?_
  exact hk5 x0 x1 x2 x3 (x5 + 1) h rx1 rx2 rx3 r1 H
noncomputable def fX0_sumFrom_5 : Nat → Nat → Int → Int → Int → Int → Hp → Option (Int × Hp)
  | 0, _, _, _, _, _, _ => none
  | n + 1, x0, x1, x2, x3, x5, h => (getI h 6 x0 0).bind fun v1 => if v1 ≤ x5 then (fX0_sumFrom_44 x3 h) else (if x1 < 0 then (fX0_sumFrom_44 x3 h) else ((fX0_has x2 x5 h).bind fun p4 => if p4.1 = 0 then (fX0_sumFrom_38 (fX0_sumFrom_5 n) x0 x1 x2 x3 x5 p4.2) else ((cob p4.2 6 x0).bind fun _ => (fX7_wayOf x0 x1 x5 p4.2).bind fun p7 => (c64 (x3 + p7.1)).bind fun _ => fX0_sumFrom_38 (fX0_sumFrom_5 n) x0 x1 x2 (x3 + p7.1) x5 p7.2)))
theorem tX0_sumFrom_5 {L : Nat} {xs : Nat → Int32} {l : Launch} {res : Int × Hp} : ∀ (n : Nat) (x0 : Nat) (x1 : Int) (x2 : Int) (x3 : Int) (x5 : Int) (h : Hp), R32 x1 → R32 x2 → R64 x3 → R32 x5 → fX0_sumFrom_5 n x0 x1 x2 x3 x5 h = some res → J L xs l RX0 cX0_sumFrom 6 false 2 (QL res) 0 0 5 [(0, vr x0), (1, vi x1), (2, vi x2), (3, vl x3), (5, vi x5)] [] h := by
  intro n
  induction n with
  | zero => intro x0 x1 x2 x3 x5 h rx1 rx2 rx3 rx5 H; cases H
  | succ n ih =>
    intro x0 x1 x2 x3 x5 h rx1 rx2 rx3 rx5 H
    rw [fX0_sumFrom_5] at H
    refine j_iload (pc' := 7) dX0_sumFrom_5 rfl 4 rfl ?_
    refine j_aload_n (i := 0) (pc' := 8) dX0_sumFrom_7 rfl rfl 0 rfl ?_
    obtain ⟨v1, e1, H⟩ := bs H
    refine j_getI (pc' := 11) dX0_sumFrom_8 rfl fl_X0_33 e1 (fun r1 => ?_)
    refine j_icmp_ge (tgt := 44) (pc' := 14) dX0_sumFrom_11 (by decide) rfl rx5 r1 (fun c2 => ?_) (fun c2 => ?_)
    · rw [if_pos c2] at H
      refine j_sub (lv' := [(3, vl x3)]) [3] rfl ?_
      exact tX0_sumFrom_44   x3 h rx3 H
    · rw [if_neg c2] at H
      refine j_iload_n (i := 1) (pc' := 15) dX0_sumFrom_14 rfl rfl 1 rfl ?_
      refine j_if_lt (tgt := 44) (pc' := 18) dX0_sumFrom_15 (by decide) rfl rx1 (fun c3 => ?_) (fun c3 => ?_)
      · rw [if_pos c3] at H
        refine j_sub (lv' := [(3, vl x3)]) [3] rfl ?_
        exact tX0_sumFrom_44   x3 h rx3 H
      · rw [if_neg c3] at H
        refine j_iload_n (i := 2) (pc' := 19) dX0_sumFrom_18 rfl rfl 2 rfl ?_
        refine j_iload (pc' := 21) dX0_sumFrom_19 rfl 4 rfl ?_
        obtain ⟨p4, e4, H⟩ := bs H
        refine j_cSb (y := yX0_has) (dY := 1) (vs := [vi x2, vi x5]) (st := []) (pc' := 24) dX0_sumFrom_21 rfl ymX0_has ysX0_has ml_X0_67 (by decide) rfl (Nat.le_of_ble_eq_true rfl) (Nat.le_of_ble_eq_true rfl) (tX0_has x2 x5 h rx2 rx5 e4) (fun r4 b4 z4 => ?_)
        refine j_if_eq (tgt := 38) (pc' := 27) dX0_sumFrom_24 (by decide) rfl r4 (fun c5 => ?_) (fun c5 => ?_)
        · rw [if_pos c5] at H
          exact tX0_sumFrom_38 _ ih x0 x1 x2 x3 x5 p4.2 rx1 rx2 rx3 rx5 H
        · rw [if_neg c5] at H
          refine j_lload_n (i := 3) (pc' := 28) dX0_sumFrom_27 rfl rfl 3 rfl ?_
          refine j_aload_n (i := 0) (pc' := 29) dX0_sumFrom_28 rfl rfl 0 rfl ?_
          refine j_iload_n (i := 1) (pc' := 30) dX0_sumFrom_29 rfl rfl 1 rfl ?_
          refine j_iload (pc' := 32) dX0_sumFrom_30 rfl 4 rfl ?_
          obtain ⟨u6, e6, H⟩ := bs H
          obtain ⟨p7, e7, H⟩ := bs H
          refine j_cVi (y := yX7_wayOf) (dY := 1) (vs := [vi x1, vi x5]) (st := [vl x3]) (q := x0) (pc' := 35) dX0_sumFrom_32 rfl ymX7_wayOf yvX7_wayOf ml_X0_71 (by decide) rfl (Nat.le_of_ble_eq_true rfl) (Nat.le_of_ble_eq_true rfl) e6 (tX7_wayOf x0 x1 x5 p4.2 rx1 rx5 e7) (fun r7 z7 => ?_)
          refine j_i2l (pc' := 36) dX0_sumFrom_35 rfl r7 ?_
          refine j_ladd (pc' := 37) dX0_sumFrom_36 rfl ?_
          obtain ⟨u8, e8, H⟩ := bs H
          have r8 := c64_R e8
          refine j_lstore_n (i := 3) (lv' := [(0, vr x0), (1, vi x1), (2, vi x2), (3, vl (x3 + p7.1)), (5, vi x5)]) (pc' := 38) dX0_sumFrom_37 rfl rfl (by decide) [1, 2, 3, 0, 4] rfl ?_
          exact tX0_sumFrom_38 _ ih x0 x1 x2 (x3 + p7.1) x5 p7.2 rx1 rx2 r8 rx5 H
noncomputable def fX0_sumFrom (a0 : Nat) (a1 : Int) (a2 : Int) (h : Hp) : Option (Int × Hp) :=
  fX0_sumFrom_5 FU a0 a1 a2 0 0 h
theorem tX0_sumFrom {L : Nat} {xs : Nat → Int32} {l : Launch} {res : Int × Hp} (a0 : Nat) (a1 : Int) (a2 : Int) (h : Hp) (ra1 : R32 a1) (ra2 : R32 a2) (H : fX0_sumFrom a0 a1 a2 h = some res) : J L xs l RX0 cX0_sumFrom 6 false 2 (QL res) 0 0 0 (alv 0 [vr a0, vi a1, vi a2]) [] h := by
  unfold fX0_sumFrom at H
  show J L xs l RX0 cX0_sumFrom 6 false 2 (QL res) 0 0 0 [(0, vr a0), (1, vi a1), (2, vi a2)] [] h
  refine j_lconst (z := 0) (pc' := 1) dX0_sumFrom_0 rfl rfl ?_
  refine j_lstore_n (i := 3) (lv' := [(0, vr a0), (1, vi a1), (2, vi a2), (3, vl 0)]) (pc' := 2) dX0_sumFrom_1 rfl rfl (by decide) [1, 2, 3, 0] rfl ?_
  refine j_iconst (pc' := 3) dX0_sumFrom_2 rfl ?_
  refine j_istore (lv' := [(0, vr a0), (1, vi a1), (2, vi a2), (3, vl 0), (5, vi 0)]) (pc' := 5) dX0_sumFrom_3 rfl (by decide) [1, 2, 3, 4, 0] rfl ?_
  exact tX0_sumFrom_5   FU a0 a1 a2 0 0 h ra1 ra2 ⟨by decide, by decide⟩ ⟨by decide, by decide⟩ H
-- X0_middleOf
noncomputable def fX0_middleOf_55 (x2 : Int) (h : Hp) : Option (Int × Hp) :=
  some (x2, h)
theorem tX0_middleOf_55 {L : Nat} {xs : Nat → Int32} {l : Launch} {res : Int × Hp} (x2 : Int) (h : Hp) (rx2 : R32 x2) (H : fX0_middleOf_55 x2 h = some res) : J L xs l RX0 cX0_middleOf 8 false 3 (QI res) 0 0 55 [(2, vi x2)] [] h := by
  unfold fX0_middleOf_55 at H
  refine j_iload_n (i := 2) (pc' := 56) dX0_middleOf_55 rfl rfl 0 rfl ?_
  obtain rfl := Option.some.inj H
  exact j_iret dX0_middleOf_56 rx2 ⟨rfl, rfl⟩
noncomputable def fX0_middleOf_49 (k9 : Nat → Int → Int → Int → Int → Hp → Option (Int × Hp)) (x0 : Nat) (x1 : Int) (x2 : Int) (x3 : Int) (x5 : Int) (h : Hp) : Option (Int × Hp) :=
  (c32 (x5 + 1)).bind fun _ => k9 x0 x1 x2 x3 (x5 + 1) h
theorem tX0_middleOf_49 {L : Nat} {xs : Nat → Int32} {l : Launch} {res : Int × Hp} (k9 : Nat → Int → Int → Int → Int → Hp → Option (Int × Hp)) (hk9 : ∀ (x0 : Nat) (x1 : Int) (x2 : Int) (x3 : Int) (x5 : Int) (h : Hp), R32 x1 → R32 x2 → R64 x3 → R32 x5 → k9 x0 x1 x2 x3 x5 h = some res → J L xs l RX0 cX0_middleOf 8 false 3 (QI res) 0 0 9 [(0, vr x0), (1, vi x1), (2, vi x2), (3, vl x3), (5, vi x5)] [] h) (x0 : Nat) (x1 : Int) (x2 : Int) (x3 : Int) (x5 : Int) (h : Hp) (rx1 : R32 x1) (rx2 : R32 x2) (rx3 : R64 x3) (rx5 : R32 x5) (H : fX0_middleOf_49 k9 x0 x1 x2 x3 x5 h = some res) : J L xs l RX0 cX0_middleOf 8 false 3 (QI res) 0 0 49 [(0, vr x0), (1, vi x1), (2, vi x2), (3, vl x3), (5, vi x5)] [] h := by
  unfold fX0_middleOf_49 at H
  obtain ⟨u1, e1, H⟩ := bs H
  have r1 := c32_R e1
  refine j_iinc (k0 := 4) (lv' := [(0, vr x0), (1, vi x1), (2, vi x2), (3, vl x3), (5, vi (x5 + 1))]) (pc' := 52) dX0_middleOf_49 rfl rfl (by decide) [1, 2, 3, 4, 0] rfl ?_
  refine j_goto (tgt := 9) dX0_middleOf_52 (by decide) ?_
  exact hk9 x0 x1 x2 x3 (x5 + 1) h rx1 rx2 rx3 r1 H
noncomputable def fX0_middleOf_9 : Nat → Nat → Int → Int → Int → Int → Hp → Option (Int × Hp)
  | 0, _, _, _, _, _, _ => none
  | n + 1, x0, x1, x2, x3, x5, h => (getI h 6 x0 0).bind fun v1 => if v1 ≤ x5 then (fX0_middleOf_55 x2 h) else ((fX0_has x1 x5 h).bind fun p3 => if p3.1 = 0 then (fX0_middleOf_49 (fX0_middleOf_9 n) x0 x1 x2 x3 x5 p3.2) else ((fX0_sumFrom x0 x5 x1 p3.2).bind fun p5 => if 0 ≤ (lCmp p5.1 x3) then (fX0_middleOf_49 (fX0_middleOf_9 n) x0 x1 x2 x3 x5 p5.2) else (fX0_middleOf_49 (fX0_middleOf_9 n) x0 x1 x5 p5.1 x5 p5.2)))
theorem tX0_middleOf_9 {L : Nat} {xs : Nat → Int32} {l : Launch} {res : Int × Hp} : ∀ (n : Nat) (x0 : Nat) (x1 : Int) (x2 : Int) (x3 : Int) (x5 : Int) (h : Hp), R32 x1 → R32 x2 → R64 x3 → R32 x5 → fX0_middleOf_9 n x0 x1 x2 x3 x5 h = some res → J L xs l RX0 cX0_middleOf 8 false 3 (QI res) 0 0 9 [(0, vr x0), (1, vi x1), (2, vi x2), (3, vl x3), (5, vi x5)] [] h := by
  intro n
  induction n with
  | zero => intro x0 x1 x2 x3 x5 h rx1 rx2 rx3 rx5 H; cases H
  | succ n ih =>
    intro x0 x1 x2 x3 x5 h rx1 rx2 rx3 rx5 H
    rw [fX0_middleOf_9] at H
    refine j_iload (pc' := 11) dX0_middleOf_9 rfl 4 rfl ?_
    refine j_aload_n (i := 0) (pc' := 12) dX0_middleOf_11 rfl rfl 0 rfl ?_
    obtain ⟨v1, e1, H⟩ := bs H
    refine j_getI (pc' := 15) dX0_middleOf_12 rfl fl_X0_33 e1 (fun r1 => ?_)
    refine j_icmp_ge (tgt := 55) (pc' := 18) dX0_middleOf_15 (by decide) rfl rx5 r1 (fun c2 => ?_) (fun c2 => ?_)
    · rw [if_pos c2] at H
      refine j_sub (lv' := [(2, vi x2)]) [2] rfl ?_
      exact tX0_middleOf_55   x2 h rx2 H
    · rw [if_neg c2] at H
      refine j_iload_n (i := 1) (pc' := 19) dX0_middleOf_18 rfl rfl 1 rfl ?_
      refine j_iload (pc' := 21) dX0_middleOf_19 rfl 4 rfl ?_
      obtain ⟨p3, e3, H⟩ := bs H
      refine j_cSb (y := yX0_has) (dY := 1) (vs := [vi x1, vi x5]) (st := []) (pc' := 24) dX0_middleOf_21 rfl ymX0_has ysX0_has ml_X0_67 (by decide) rfl (Nat.le_of_ble_eq_true rfl) (Nat.le_of_ble_eq_true rfl) (tX0_has x1 x5 h rx1 rx5 e3) (fun r3 b3 z3 => ?_)
      refine j_if_eq (tgt := 49) (pc' := 27) dX0_middleOf_24 (by decide) rfl r3 (fun c4 => ?_) (fun c4 => ?_)
      · rw [if_pos c4] at H
        exact tX0_middleOf_49 _ ih x0 x1 x2 x3 x5 p3.2 rx1 rx2 rx3 rx5 H
      · rw [if_neg c4] at H
        refine j_aload_n (i := 0) (pc' := 28) dX0_middleOf_27 rfl rfl 0 rfl ?_
        refine j_iload (pc' := 30) dX0_middleOf_28 rfl 4 rfl ?_
        refine j_iload_n (i := 1) (pc' := 31) dX0_middleOf_30 rfl rfl 1 rfl ?_
        obtain ⟨p5, e5, H⟩ := bs H
        refine j_cSl (y := yX0_sumFrom) (dY := 2) (vs := [vr x0, vi x5, vi x1]) (st := []) (pc' := 34) dX0_middleOf_31 rfl ymX0_sumFrom ysX0_sumFrom ml_X0_58 (by decide) rfl (Nat.le_of_ble_eq_true rfl) (Nat.le_of_ble_eq_true rfl) (tX0_sumFrom x0 x5 x1 p3.2 rx5 rx1 e5) (fun r5 z5 => ?_)
        refine j_lstore (lv' := [(0, vr x0), (1, vi x1), (2, vi x2), (3, vl x3), (5, vi x5), (6, vl p5.1)]) (pc' := 36) dX0_middleOf_34 rfl (by decide) [1, 2, 3, 4, 5, 0] rfl ?_
        refine j_lload (pc' := 38) dX0_middleOf_36 rfl 5 rfl ?_
        refine j_lload_n (i := 3) (pc' := 39) dX0_middleOf_38 rfl rfl 3 rfl ?_
        refine j_lcmp (pc' := 40) dX0_middleOf_39 rfl r5 rx3 ?_
        refine j_if_ge (tgt := 49) (pc' := 43) dX0_middleOf_40 (by decide) rfl (R32_lcmp _ _) (fun c6 => ?_) (fun c6 => ?_)
        · rw [if_pos c6] at H
          refine j_sub (lv' := [(0, vr x0), (1, vi x1), (2, vi x2), (3, vl x3), (5, vi x5)]) [0, 1, 2, 3, 4] rfl ?_
          exact tX0_middleOf_49 _ ih x0 x1 x2 x3 x5 p5.2 rx1 rx2 rx3 rx5 H
        · rw [if_neg c6] at H
          refine j_lload (pc' := 45) dX0_middleOf_43 rfl 5 rfl ?_
          refine j_lstore_n (i := 3) (lv' := [(0, vr x0), (1, vi x1), (2, vi x2), (3, vl p5.1), (5, vi x5), (6, vl p5.1)]) (pc' := 46) dX0_middleOf_45 rfl rfl (by decide) [1, 2, 3, 0, 4, 5] rfl ?_
          refine j_iload (pc' := 48) dX0_middleOf_46 rfl 4 rfl ?_
          refine j_istore_n (i := 2) (lv' := [(0, vr x0), (1, vi x1), (2, vi x5), (3, vl p5.1), (5, vi x5), (6, vl p5.1)]) (pc' := 49) dX0_middleOf_48 rfl rfl (by decide) [1, 2, 0, 3, 4, 5] rfl ?_
          refine j_sub (lv' := [(0, vr x0), (1, vi x1), (2, vi x5), (3, vl p5.1), (5, vi x5)]) [0, 1, 2, 3, 4] rfl ?_
          exact tX0_middleOf_49 _ ih x0 x1 x5 p5.1 x5 p5.2 rx1 rx5 r5 rx5 H
noncomputable def fX0_middleOf (a0 : Nat) (a1 : Int) (h : Hp) : Option (Int × Hp) :=
  fX0_middleOf_9 FU a0 a1 (-1) 9223372036854775807 0 h
theorem tX0_middleOf {L : Nat} {xs : Nat → Int32} {l : Launch} {res : Int × Hp} (a0 : Nat) (a1 : Int) (h : Hp) (ra1 : R32 a1) (H : fX0_middleOf a0 a1 h = some res) : J L xs l RX0 cX0_middleOf 8 false 3 (QI res) 0 0 0 (alv 0 [vr a0, vi a1]) [] h := by
  unfold fX0_middleOf at H
  show J L xs l RX0 cX0_middleOf 8 false 3 (QI res) 0 0 0 [(0, vr a0), (1, vi a1)] [] h
  refine j_iconst (pc' := 1) dX0_middleOf_0 rfl ?_
  refine j_istore_n (i := 2) (lv' := [(0, vr a0), (1, vi a1), (2, vi (-1))]) (pc' := 2) dX0_middleOf_1 rfl rfl (by decide) [1, 2, 0] rfl ?_
  refine j_ldc2 (z := 9223372036854775807) (pc' := 5) dX0_middleOf_2 rfl kk_X0_78 (by decide +kernel) ?_
  refine j_lstore_n (i := 3) (lv' := [(0, vr a0), (1, vi a1), (2, vi (-1)), (3, vl 9223372036854775807)]) (pc' := 6) dX0_middleOf_5 rfl rfl (by decide) [1, 2, 3, 0] rfl ?_
  refine j_iconst (pc' := 7) dX0_middleOf_6 rfl ?_
  refine j_istore (lv' := [(0, vr a0), (1, vi a1), (2, vi (-1)), (3, vl 9223372036854775807), (5, vi 0)]) (pc' := 9) dX0_middleOf_7 rfl (by decide) [1, 2, 3, 4, 0] rfl ?_
  exact tX0_middleOf_9   FU a0 a1 (-1) 9223372036854775807 0 h ra1 ⟨by decide, by decide⟩ ⟨by decide, by decide⟩ ⟨by decide, by decide⟩ H
-- X0_reach
noncomputable def fX0_reach_41 (x4 : Int) (h : Hp) : Option (Int × Hp) :=
  some (x4, h)
theorem tX0_reach_41 {L : Nat} {xs : Nat → Int32} {l : Launch} {res : Int × Hp} (x4 : Int) (h : Hp) (rx4 : R32 x4) (H : fX0_reach_41 x4 h = some res) : J L xs l RX0 cX0_reach 6 false 2 (QI res) 0 0 41 [(4, vi x4)] [] h := by
  unfold fX0_reach_41 at H
  refine j_iload (pc' := 43) dX0_reach_41 rfl 0 rfl ?_
  obtain rfl := Option.some.inj H
  exact j_iret dX0_reach_43 rx4 ⟨rfl, rfl⟩
noncomputable def fX0_reach_35 (k6 : Nat → Int → Int → Int → Int → Int → Hp → Option (Int × Hp)) (x0 : Nat) (x1 : Int) (x2 : Int) (x3 : Int) (x4 : Int) (x5 : Int) (h : Hp) : Option (Int × Hp) :=
  (c32 (x5 + 1)).bind fun _ => k6 x0 x1 x2 x3 x4 (x5 + 1) h
theorem tX0_reach_35 {L : Nat} {xs : Nat → Int32} {l : Launch} {res : Int × Hp} (k6 : Nat → Int → Int → Int → Int → Int → Hp → Option (Int × Hp)) (hk6 : ∀ (x0 : Nat) (x1 : Int) (x2 : Int) (x3 : Int) (x4 : Int) (x5 : Int) (h : Hp), R32 x1 → R32 x2 → R32 x3 → R32 x4 → R32 x5 → k6 x0 x1 x2 x3 x4 x5 h = some res → J L xs l RX0 cX0_reach 6 false 2 (QI res) 0 0 6 [(0, vr x0), (1, vi x1), (2, vi x2), (3, vi x3), (4, vi x4), (5, vi x5)] [] h) (x0 : Nat) (x1 : Int) (x2 : Int) (x3 : Int) (x4 : Int) (x5 : Int) (h : Hp) (rx1 : R32 x1) (rx2 : R32 x2) (rx3 : R32 x3) (rx4 : R32 x4) (rx5 : R32 x5) (H : fX0_reach_35 k6 x0 x1 x2 x3 x4 x5 h = some res) : J L xs l RX0 cX0_reach 6 false 2 (QI res) 0 0 35 [(0, vr x0), (1, vi x1), (2, vi x2), (3, vi x3), (4, vi x4), (5, vi x5)] [] h := by
  unfold fX0_reach_35 at H
  obtain ⟨u1, e1, H⟩ := bs H
  have r1 := c32_R e1
  refine j_iinc (k0 := 5) (lv' := [(0, vr x0), (1, vi x1), (2, vi x2), (3, vi x3), (4, vi x4), (5, vi (x5 + 1))]) (pc' := 38) dX0_reach_35 rfl rfl (by decide) [1, 2, 3, 4, 5, 0] rfl ?_
  refine j_goto (tgt := 6) dX0_reach_38 (by decide) ?_
  exact hk6 x0 x1 x2 x3 x4 (x5 + 1) h rx1 rx2 rx3 rx4 r1 H
noncomputable def fX0_reach_6 : Nat → Nat → Int → Int → Int → Int → Int → Hp → Option (Int × Hp)
  | 0, _, _, _, _, _, _, _ => none
  | n + 1, x0, x1, x2, x3, x4, x5, h => if x3 ≤ x5 then (fX0_reach_41 x4 h) else ((fX0_has x2 x5 h).bind fun p2 => if p2.1 = 0 then (fX0_reach_35 (fX0_reach_6 n) x0 x1 x2 x3 x4 x5 p2.2) else ((cob p2.2 6 x0).bind fun _ => (fX7_wayOf x0 x1 x5 p2.2).bind fun p5 => fX0_reach_35 (fX0_reach_6 n) x0 x1 x2 x3 (max x4 p5.1) x5 p5.2))
theorem tX0_reach_6 {L : Nat} {xs : Nat → Int32} {l : Launch} {res : Int × Hp} : ∀ (n : Nat) (x0 : Nat) (x1 : Int) (x2 : Int) (x3 : Int) (x4 : Int) (x5 : Int) (h : Hp), R32 x1 → R32 x2 → R32 x3 → R32 x4 → R32 x5 → fX0_reach_6 n x0 x1 x2 x3 x4 x5 h = some res → J L xs l RX0 cX0_reach 6 false 2 (QI res) 0 0 6 [(0, vr x0), (1, vi x1), (2, vi x2), (3, vi x3), (4, vi x4), (5, vi x5)] [] h := by
  intro n
  induction n with
  | zero => intro x0 x1 x2 x3 x4 x5 h rx1 rx2 rx3 rx4 rx5 H; cases H
  | succ n ih =>
    intro x0 x1 x2 x3 x4 x5 h rx1 rx2 rx3 rx4 rx5 H
    rw [fX0_reach_6] at H
    refine j_iload (pc' := 8) dX0_reach_6 rfl 5 rfl ?_
    refine j_iload_n (i := 3) (pc' := 9) dX0_reach_8 rfl rfl 3 rfl ?_
    refine j_icmp_ge (tgt := 41) (pc' := 12) dX0_reach_9 (by decide) rfl rx5 rx3 (fun c1 => ?_) (fun c1 => ?_)
    · rw [if_pos c1] at H
      refine j_sub (lv' := [(4, vi x4)]) [4] rfl ?_
      exact tX0_reach_41   x4 h rx4 H
    · rw [if_neg c1] at H
      refine j_iload_n (i := 2) (pc' := 13) dX0_reach_12 rfl rfl 2 rfl ?_
      refine j_iload (pc' := 15) dX0_reach_13 rfl 5 rfl ?_
      obtain ⟨p2, e2, H⟩ := bs H
      refine j_cSb (y := yX0_has) (dY := 1) (vs := [vi x2, vi x5]) (st := []) (pc' := 18) dX0_reach_15 rfl ymX0_has ysX0_has ml_X0_67 (by decide) rfl (Nat.le_of_ble_eq_true rfl) (Nat.le_of_ble_eq_true rfl) (tX0_has x2 x5 h rx2 rx5 e2) (fun r2 b2 z2 => ?_)
      refine j_if_eq (tgt := 35) (pc' := 21) dX0_reach_18 (by decide) rfl r2 (fun c3 => ?_) (fun c3 => ?_)
      · rw [if_pos c3] at H
        exact tX0_reach_35 _ ih x0 x1 x2 x3 x4 x5 p2.2 rx1 rx2 rx3 rx4 rx5 H
      · rw [if_neg c3] at H
        refine j_iload (pc' := 23) dX0_reach_21 rfl 4 rfl ?_
        refine j_aload_n (i := 0) (pc' := 24) dX0_reach_23 rfl rfl 0 rfl ?_
        refine j_iload_n (i := 1) (pc' := 25) dX0_reach_24 rfl rfl 1 rfl ?_
        refine j_iload (pc' := 27) dX0_reach_25 rfl 5 rfl ?_
        obtain ⟨u4, e4, H⟩ := bs H
        obtain ⟨p5, e5, H⟩ := bs H
        refine j_cVi (y := yX7_wayOf) (dY := 1) (vs := [vi x1, vi x5]) (st := [vi x4]) (q := x0) (pc' := 30) dX0_reach_27 rfl ymX7_wayOf yvX7_wayOf ml_X0_71 (by decide) rfl (Nat.le_of_ble_eq_true rfl) (Nat.le_of_ble_eq_true rfl) e4 (tX7_wayOf x0 x1 x5 p2.2 rx1 rx5 e5) (fun r5 z5 => ?_)
        refine j_mmax (pc' := 33) dX0_reach_30 rfl ml_X0_84 (by decide) (Nat.le_of_ble_eq_true rfl) rx4 r5 ?_
        refine j_istore (lv' := [(0, vr x0), (1, vi x1), (2, vi x2), (3, vi x3), (4, vi (max x4 p5.1)), (5, vi x5)]) (pc' := 35) dX0_reach_33 rfl (by decide) [1, 2, 3, 4, 0, 5] rfl ?_
        exact tX0_reach_35 _ ih x0 x1 x2 x3 (max x4 p5.1) x5 p5.2 rx1 rx2 rx3 (R32_max rx4 r5) rx5 H
noncomputable def fX0_reach (a0 : Nat) (a1 : Int) (a2 : Int) (a3 : Int) (h : Hp) : Option (Int × Hp) :=
  fX0_reach_6 FU a0 a1 a2 a3 0 0 h
theorem tX0_reach {L : Nat} {xs : Nat → Int32} {l : Launch} {res : Int × Hp} (a0 : Nat) (a1 : Int) (a2 : Int) (a3 : Int) (h : Hp) (ra1 : R32 a1) (ra2 : R32 a2) (ra3 : R32 a3) (H : fX0_reach a0 a1 a2 a3 h = some res) : J L xs l RX0 cX0_reach 6 false 2 (QI res) 0 0 0 (alv 0 [vr a0, vi a1, vi a2, vi a3]) [] h := by
  unfold fX0_reach at H
  show J L xs l RX0 cX0_reach 6 false 2 (QI res) 0 0 0 [(0, vr a0), (1, vi a1), (2, vi a2), (3, vi a3)] [] h
  refine j_iconst (pc' := 1) dX0_reach_0 rfl ?_
  refine j_istore (lv' := [(0, vr a0), (1, vi a1), (2, vi a2), (3, vi a3), (4, vi 0)]) (pc' := 3) dX0_reach_1 rfl (by decide) [1, 2, 3, 4, 0] rfl ?_
  refine j_iconst (pc' := 4) dX0_reach_3 rfl ?_
  refine j_istore (lv' := [(0, vr a0), (1, vi a1), (2, vi a2), (3, vi a3), (4, vi 0), (5, vi 0)]) (pc' := 6) dX0_reach_4 rfl (by decide) [1, 2, 3, 4, 5, 0] rfl ?_
  exact tX0_reach_6   FU a0 a1 a2 a3 0 0 h ra1 ra2 ra3 ⟨by decide, by decide⟩ ⟨by decide, by decide⟩ H
-- X0_width
noncomputable def fX0_width_38 (x2 : Int) (h : Hp) : Option (Int × Hp) :=
  some (x2, h)
theorem tX0_width_38 {L : Nat} {xs : Nat → Int32} {l : Launch} {res : Int × Hp} (x2 : Int) (h : Hp) (rx2 : R32 x2) (H : fX0_width_38 x2 h = some res) : J L xs l RX0 cX0_width 4 false 3 (QL res) 0 0 38 [(2, vi x2)] [] h := by
  unfold fX0_width_38 at H
  refine j_iload_n (i := 2) (pc' := 39) dX0_width_38 rfl rfl 0 rfl ?_
  refine j_i2l (pc' := 40) dX0_width_39 rfl rx2 ?_
  obtain rfl := Option.some.inj H
  exact j_lret dX0_width_40 (R32_l rx2) ⟨rfl, rfl⟩
noncomputable def fX0_width_32 (k4 : Nat → Int → Int → Int → Hp → Option (Int × Hp)) (x0 : Nat) (x1 : Int) (x2 : Int) (x3 : Int) (h : Hp) : Option (Int × Hp) :=
  (c32 (x3 + 1)).bind fun _ => k4 x0 x1 x2 (x3 + 1) h
theorem tX0_width_32 {L : Nat} {xs : Nat → Int32} {l : Launch} {res : Int × Hp} (k4 : Nat → Int → Int → Int → Hp → Option (Int × Hp)) (hk4 : ∀ (x0 : Nat) (x1 : Int) (x2 : Int) (x3 : Int) (h : Hp), R32 x1 → R32 x2 → R32 x3 → k4 x0 x1 x2 x3 h = some res → J L xs l RX0 cX0_width 4 false 3 (QL res) 0 0 4 [(0, vr x0), (1, vi x1), (2, vi x2), (3, vi x3)] [] h) (x0 : Nat) (x1 : Int) (x2 : Int) (x3 : Int) (h : Hp) (rx1 : R32 x1) (rx2 : R32 x2) (rx3 : R32 x3) (H : fX0_width_32 k4 x0 x1 x2 x3 h = some res) : J L xs l RX0 cX0_width 4 false 3 (QL res) 0 0 32 [(0, vr x0), (1, vi x1), (2, vi x2), (3, vi x3)] [] h := by
  unfold fX0_width_32 at H
  obtain ⟨u1, e1, H⟩ := bs H
  have r1 := c32_R e1
  refine j_iinc (k0 := 3) (lv' := [(0, vr x0), (1, vi x1), (2, vi x2), (3, vi (x3 + 1))]) (pc' := 35) dX0_width_32 rfl rfl (by decide) [1, 2, 3, 0] rfl ?_
  refine j_goto (tgt := 4) dX0_width_35 (by decide) ?_
  exact hk4 x0 x1 x2 (x3 + 1) h rx1 rx2 r1 H
noncomputable def fX0_width_4 : Nat → Nat → Int → Int → Int → Hp → Option (Int × Hp)
  | 0, _, _, _, _, _ => none
  | n + 1, x0, x1, x2, x3, h => (getI h 6 x0 0).bind fun v1 => if v1 ≤ x3 then (fX0_width_38 x2 h) else ((fX0_has x1 x3 h).bind fun p3 => if p3.1 = 0 then (fX0_width_32 (fX0_width_4 n) x0 x1 x2 x3 p3.2) else ((fX0_reach x0 x3 x1 x3 p3.2).bind fun p5 => fX0_width_32 (fX0_width_4 n) x0 x1 (max x2 p5.1) x3 p5.2))
theorem tX0_width_4 {L : Nat} {xs : Nat → Int32} {l : Launch} {res : Int × Hp} : ∀ (n : Nat) (x0 : Nat) (x1 : Int) (x2 : Int) (x3 : Int) (h : Hp), R32 x1 → R32 x2 → R32 x3 → fX0_width_4 n x0 x1 x2 x3 h = some res → J L xs l RX0 cX0_width 4 false 3 (QL res) 0 0 4 [(0, vr x0), (1, vi x1), (2, vi x2), (3, vi x3)] [] h := by
  intro n
  induction n with
  | zero => intro x0 x1 x2 x3 h rx1 rx2 rx3 H; cases H
  | succ n ih =>
    intro x0 x1 x2 x3 h rx1 rx2 rx3 H
    rw [fX0_width_4] at H
    refine j_iload_n (i := 3) (pc' := 5) dX0_width_4 rfl rfl 3 rfl ?_
    refine j_aload_n (i := 0) (pc' := 6) dX0_width_5 rfl rfl 0 rfl ?_
    obtain ⟨v1, e1, H⟩ := bs H
    refine j_getI (pc' := 9) dX0_width_6 rfl fl_X0_33 e1 (fun r1 => ?_)
    refine j_icmp_ge (tgt := 38) (pc' := 12) dX0_width_9 (by decide) rfl rx3 r1 (fun c2 => ?_) (fun c2 => ?_)
    · rw [if_pos c2] at H
      refine j_sub (lv' := [(2, vi x2)]) [2] rfl ?_
      exact tX0_width_38   x2 h rx2 H
    · rw [if_neg c2] at H
      refine j_iload_n (i := 1) (pc' := 13) dX0_width_12 rfl rfl 1 rfl ?_
      refine j_iload_n (i := 3) (pc' := 14) dX0_width_13 rfl rfl 3 rfl ?_
      obtain ⟨p3, e3, H⟩ := bs H
      refine j_cSb (y := yX0_has) (dY := 1) (vs := [vi x1, vi x3]) (st := []) (pc' := 17) dX0_width_14 rfl ymX0_has ysX0_has ml_X0_67 (by decide) rfl (Nat.le_of_ble_eq_true rfl) (Nat.le_of_ble_eq_true rfl) (tX0_has x1 x3 h rx1 rx3 e3) (fun r3 b3 z3 => ?_)
      refine j_if_eq (tgt := 32) (pc' := 20) dX0_width_17 (by decide) rfl r3 (fun c4 => ?_) (fun c4 => ?_)
      · rw [if_pos c4] at H
        exact tX0_width_32 _ ih x0 x1 x2 x3 p3.2 rx1 rx2 rx3 H
      · rw [if_neg c4] at H
        refine j_iload_n (i := 2) (pc' := 21) dX0_width_20 rfl rfl 2 rfl ?_
        refine j_aload_n (i := 0) (pc' := 22) dX0_width_21 rfl rfl 0 rfl ?_
        refine j_iload_n (i := 3) (pc' := 23) dX0_width_22 rfl rfl 3 rfl ?_
        refine j_iload_n (i := 1) (pc' := 24) dX0_width_23 rfl rfl 1 rfl ?_
        refine j_iload_n (i := 3) (pc' := 25) dX0_width_24 rfl rfl 3 rfl ?_
        obtain ⟨p5, e5, H⟩ := bs H
        refine j_cSi (y := yX0_reach) (dY := 2) (vs := [vr x0, vi x3, vi x1, vi x3]) (st := [vi x2]) (pc' := 28) dX0_width_25 rfl ymX0_reach ysX0_reach ml_X0_80 (by decide) rfl (Nat.le_of_ble_eq_true rfl) (Nat.le_of_ble_eq_true rfl) (tX0_reach x0 x3 x1 x3 p3.2 rx3 rx1 rx3 e5) (fun r5 z5 => ?_)
        refine j_mmax (pc' := 31) dX0_width_28 rfl ml_X0_84 (by decide) (Nat.le_of_ble_eq_true rfl) rx2 r5 ?_
        refine j_istore_n (i := 2) (lv' := [(0, vr x0), (1, vi x1), (2, vi (max x2 p5.1)), (3, vi x3)]) (pc' := 32) dX0_width_31 rfl rfl (by decide) [1, 2, 0, 3] rfl ?_
        exact tX0_width_32 _ ih x0 x1 (max x2 p5.1) x3 p5.2 rx1 (R32_max rx2 r5) rx3 H
noncomputable def fX0_width (a0 : Nat) (a1 : Int) (h : Hp) : Option (Int × Hp) :=
  fX0_width_4 FU a0 a1 0 1 h
theorem tX0_width {L : Nat} {xs : Nat → Int32} {l : Launch} {res : Int × Hp} (a0 : Nat) (a1 : Int) (h : Hp) (ra1 : R32 a1) (H : fX0_width a0 a1 h = some res) : J L xs l RX0 cX0_width 4 false 3 (QL res) 0 0 0 (alv 0 [vr a0, vi a1]) [] h := by
  unfold fX0_width at H
  show J L xs l RX0 cX0_width 4 false 3 (QL res) 0 0 0 [(0, vr a0), (1, vi a1)] [] h
  refine j_iconst (pc' := 1) dX0_width_0 rfl ?_
  refine j_istore_n (i := 2) (lv' := [(0, vr a0), (1, vi a1), (2, vi 0)]) (pc' := 2) dX0_width_1 rfl rfl (by decide) [1, 2, 0] rfl ?_
  refine j_iconst (pc' := 3) dX0_width_2 rfl ?_
  refine j_istore_n (i := 3) (lv' := [(0, vr a0), (1, vi a1), (2, vi 0), (3, vi 1)]) (pc' := 4) dX0_width_3 rfl rfl (by decide) [1, 2, 3, 0] rfl ?_
  exact tX0_width_4   FU a0 a1 0 1 h ra1 ⟨by decide, by decide⟩ ⟨by decide, by decide⟩ H
-- X0_quarrels
noncomputable def fX0_quarrels_89 (x2 : Int) (h : Hp) : Option (Int × Hp) :=
  some (x2, h)
theorem tX0_quarrels_89 {L : Nat} {xs : Nat → Int32} {l : Launch} {res : Int × Hp} (x2 : Int) (h : Hp) (rx2 : R64 x2) (H : fX0_quarrels_89 x2 h = some res) : J L xs l RX0 cX0_quarrels 7 false 2 (QL res) 0 0 89 [(2, vl x2)] [] h := by
  unfold fX0_quarrels_89 at H
  refine j_lload_n (i := 2) (pc' := 90) dX0_quarrels_89 rfl rfl 0 rfl ?_
  obtain rfl := Option.some.inj H
  exact j_lret dX0_quarrels_90 rx2 ⟨rfl, rfl⟩
noncomputable def fX0_quarrels_83 (k5 : Nat → Int → Int → Int → Hp → Option (Int × Hp)) (x0 : Nat) (x1 : Int) (x2 : Int) (x4 : Int) (h : Hp) : Option (Int × Hp) :=
  (c32 (x4 + 1)).bind fun _ => k5 x0 x1 x2 (x4 + 1) h
theorem tX0_quarrels_83 {L : Nat} {xs : Nat → Int32} {l : Launch} {res : Int × Hp} (k5 : Nat → Int → Int → Int → Hp → Option (Int × Hp)) (hk5 : ∀ (x0 : Nat) (x1 : Int) (x2 : Int) (x4 : Int) (h : Hp), R32 x1 → R64 x2 → R32 x4 → k5 x0 x1 x2 x4 h = some res → J L xs l RX0 cX0_quarrels 7 false 2 (QL res) 0 0 5 [(0, vr x0), (1, vi x1), (2, vl x2), (4, vi x4)] [] h) (x0 : Nat) (x1 : Int) (x2 : Int) (x4 : Int) (h : Hp) (rx1 : R32 x1) (rx2 : R64 x2) (rx4 : R32 x4) (H : fX0_quarrels_83 k5 x0 x1 x2 x4 h = some res) : J L xs l RX0 cX0_quarrels 7 false 2 (QL res) 0 0 83 [(0, vr x0), (1, vi x1), (2, vl x2), (4, vi x4)] [] h := by
  unfold fX0_quarrels_83 at H
  obtain ⟨u1, e1, H⟩ := bs H
  have r1 := c32_R e1
  refine j_iinc (k0 := 3) (lv' := [(0, vr x0), (1, vi x1), (2, vl x2), (4, vi (x4 + 1))]) (pc' := 86) dX0_quarrels_83 rfl rfl (by decide) [1, 2, 3, 0] rfl ?_
  refine j_goto (tgt := 5) dX0_quarrels_86 (by decide) ?_
  exact hk5 x0 x1 x2 (x4 + 1) h rx1 rx2 r1 H
noncomputable def fX0_quarrels_77 (k5 : Nat → Int → Int → Int → Hp → Option (Int × Hp)) (k17 : Nat → Int → Int → Int → Int → Hp → Option (Int × Hp)) (x0 : Nat) (x1 : Int) (x2 : Int) (x4 : Int) (x5 : Int) (h : Hp) : Option (Int × Hp) :=
  (c32 (x5 + 1)).bind fun _ => k17 x0 x1 x2 x4 (x5 + 1) h
theorem tX0_quarrels_77 {L : Nat} {xs : Nat → Int32} {l : Launch} {res : Int × Hp} (k5 : Nat → Int → Int → Int → Hp → Option (Int × Hp)) (k17 : Nat → Int → Int → Int → Int → Hp → Option (Int × Hp)) (hk5 : ∀ (x0 : Nat) (x1 : Int) (x2 : Int) (x4 : Int) (h : Hp), R32 x1 → R64 x2 → R32 x4 → k5 x0 x1 x2 x4 h = some res → J L xs l RX0 cX0_quarrels 7 false 2 (QL res) 0 0 5 [(0, vr x0), (1, vi x1), (2, vl x2), (4, vi x4)] [] h) (hk17 : ∀ (x0 : Nat) (x1 : Int) (x2 : Int) (x4 : Int) (x5 : Int) (h : Hp), R32 x1 → R64 x2 → R32 x4 → R32 x5 → k17 x0 x1 x2 x4 x5 h = some res → J L xs l RX0 cX0_quarrels 7 false 2 (QL res) 0 0 17 [(0, vr x0), (1, vi x1), (2, vl x2), (4, vi x4), (5, vi x5)] [] h) (x0 : Nat) (x1 : Int) (x2 : Int) (x4 : Int) (x5 : Int) (h : Hp) (rx1 : R32 x1) (rx2 : R64 x2) (rx4 : R32 x4) (rx5 : R32 x5) (H : fX0_quarrels_77 k5 k17 x0 x1 x2 x4 x5 h = some res) : J L xs l RX0 cX0_quarrels 7 false 2 (QL res) 0 0 77 [(0, vr x0), (1, vi x1), (2, vl x2), (4, vi x4), (5, vi x5)] [] h := by
  unfold fX0_quarrels_77 at H
  obtain ⟨u1, e1, H⟩ := bs H
  have r1 := c32_R e1
  refine j_iinc (k0 := 4) (lv' := [(0, vr x0), (1, vi x1), (2, vl x2), (4, vi x4), (5, vi (x5 + 1))]) (pc' := 80) dX0_quarrels_77 rfl rfl (by decide) [1, 2, 3, 4, 0] rfl ?_
  refine j_goto (tgt := 17) dX0_quarrels_80 (by decide) ?_
  exact hk17 x0 x1 x2 x4 (x5 + 1) h rx1 rx2 rx4 r1 H
noncomputable def fX0_quarrels_75 (k5 : Nat → Int → Int → Int → Hp → Option (Int × Hp)) (k17 : Nat → Int → Int → Int → Int → Hp → Option (Int × Hp)) (x0 : Nat) (x1 : Int) (x4 : Int) (x5 : Int) (s0 : Int) (s1 : Int) (h : Hp) : Option (Int × Hp) :=
  (c64 (s1 + s0)).bind fun _ => fX0_quarrels_77 k5 k17 x0 x1 (s1 + s0) x4 x5 h
theorem tX0_quarrels_75 {L : Nat} {xs : Nat → Int32} {l : Launch} {res : Int × Hp} (k5 : Nat → Int → Int → Int → Hp → Option (Int × Hp)) (k17 : Nat → Int → Int → Int → Int → Hp → Option (Int × Hp)) (hk5 : ∀ (x0 : Nat) (x1 : Int) (x2 : Int) (x4 : Int) (h : Hp), R32 x1 → R64 x2 → R32 x4 → k5 x0 x1 x2 x4 h = some res → J L xs l RX0 cX0_quarrels 7 false 2 (QL res) 0 0 5 [(0, vr x0), (1, vi x1), (2, vl x2), (4, vi x4)] [] h) (hk17 : ∀ (x0 : Nat) (x1 : Int) (x2 : Int) (x4 : Int) (x5 : Int) (h : Hp), R32 x1 → R64 x2 → R32 x4 → R32 x5 → k17 x0 x1 x2 x4 x5 h = some res → J L xs l RX0 cX0_quarrels 7 false 2 (QL res) 0 0 17 [(0, vr x0), (1, vi x1), (2, vl x2), (4, vi x4), (5, vi x5)] [] h) (x0 : Nat) (x1 : Int) (x4 : Int) (x5 : Int) (s0 : Int) (s1 : Int) (h : Hp) (rx1 : R32 x1) (rx4 : R32 x4) (rx5 : R32 x5) (rs0 : R64 s0) (rs1 : R64 s1) (H : fX0_quarrels_75 k5 k17 x0 x1 x4 x5 s0 s1 h = some res) : J L xs l RX0 cX0_quarrels 7 false 2 (QL res) 0 0 75 [(0, vr x0), (1, vi x1), (4, vi x4), (5, vi x5)] [vl s0, vl s1] h := by
  unfold fX0_quarrels_75 at H
  refine j_ladd (pc' := 76) dX0_quarrels_75 rfl ?_
  obtain ⟨u1, e1, H⟩ := bs H
  have r1 := c64_R e1
  refine j_lstore_n (i := 2) (lv' := [(0, vr x0), (1, vi x1), (2, vl (s1 + s0)), (4, vi x4), (5, vi x5)]) (pc' := 77) dX0_quarrels_76 rfl rfl (by decide) [1, 2, 0, 3, 4] rfl ?_
  exact tX0_quarrels_77 _ _ hk5 hk17 x0 x1 (s1 + s0) x4 x5 h rx1 r1 rx4 rx5 H
noncomputable def fX0_quarrels_17 (k5 : Nat → Int → Int → Int → Hp → Option (Int × Hp)) : Nat → Nat → Int → Int → Int → Int → Hp → Option (Int × Hp)
  | 0, _, _, _, _, _, _ => none
  | n + 1, x0, x1, x2, x4, x5, h => if x4 ≤ x5 then (fX0_quarrels_83 k5 x0 x1 x2 x4 h) else ((fX0_has x1 x4 h).bind fun p2 => if p2.1 = 0 then (fX0_quarrels_83 k5 x0 x1 x2 x4 p2.2) else ((fX0_has x1 x5 p2.2).bind fun p4 => if p4.1 = 0 then (fX0_quarrels_77 k5 (fX0_quarrels_17 k5 n) x0 x1 x2 x4 x5 p4.2) else ((cob p4.2 6 x0).bind fun _ => (fX7_weightOf x0 x4 x5 p4.2).bind fun p7 => (cob p7.2 6 x0).bind fun _ => (fX7_likeOf x0 x4 x5 p7.2).bind fun p9 => if p9.1 = 1 then ((c32 (-p7.1)).bind fun _ => fX0_quarrels_75 k5 (fX0_quarrels_17 k5 n) x0 x1 x4 x5 (-p7.1) x2 p9.2) else (fX0_quarrels_75 k5 (fX0_quarrels_17 k5 n) x0 x1 x4 x5 p7.1 x2 p9.2))))
theorem tX0_quarrels_17 {L : Nat} {xs : Nat → Int32} {l : Launch} {res : Int × Hp} (k5 : Nat → Int → Int → Int → Hp → Option (Int × Hp)) (hk5 : ∀ (x0 : Nat) (x1 : Int) (x2 : Int) (x4 : Int) (h : Hp), R32 x1 → R64 x2 → R32 x4 → k5 x0 x1 x2 x4 h = some res → J L xs l RX0 cX0_quarrels 7 false 2 (QL res) 0 0 5 [(0, vr x0), (1, vi x1), (2, vl x2), (4, vi x4)] [] h) : ∀ (n : Nat) (x0 : Nat) (x1 : Int) (x2 : Int) (x4 : Int) (x5 : Int) (h : Hp), R32 x1 → R64 x2 → R32 x4 → R32 x5 → fX0_quarrels_17 k5 n x0 x1 x2 x4 x5 h = some res → J L xs l RX0 cX0_quarrels 7 false 2 (QL res) 0 0 17 [(0, vr x0), (1, vi x1), (2, vl x2), (4, vi x4), (5, vi x5)] [] h := by
  intro n
  induction n with
  | zero => intro x0 x1 x2 x4 x5 h rx1 rx2 rx4 rx5 H; cases H
  | succ n ih =>
    intro x0 x1 x2 x4 x5 h rx1 rx2 rx4 rx5 H
    rw [fX0_quarrels_17] at H
    refine j_iload (pc' := 19) dX0_quarrels_17 rfl 4 rfl ?_
    refine j_iload (pc' := 21) dX0_quarrels_19 rfl 3 rfl ?_
    refine j_icmp_ge (tgt := 83) (pc' := 24) dX0_quarrels_21 (by decide) rfl rx5 rx4 (fun c1 => ?_) (fun c1 => ?_)
    · rw [if_pos c1] at H
      refine j_sub (lv' := [(0, vr x0), (1, vi x1), (2, vl x2), (4, vi x4)]) [0, 1, 2, 3] rfl ?_
      exact tX0_quarrels_83 _ hk5 x0 x1 x2 x4 h rx1 rx2 rx4 H
    · rw [if_neg c1] at H
      refine j_iload_n (i := 1) (pc' := 25) dX0_quarrels_24 rfl rfl 1 rfl ?_
      refine j_iload (pc' := 27) dX0_quarrels_25 rfl 3 rfl ?_
      obtain ⟨p2, e2, H⟩ := bs H
      refine j_cSb (y := yX0_has) (dY := 1) (vs := [vi x1, vi x4]) (st := []) (pc' := 30) dX0_quarrels_27 rfl ymX0_has ysX0_has ml_X0_67 (by decide) rfl (Nat.le_of_ble_eq_true rfl) (Nat.le_of_ble_eq_true rfl) (tX0_has x1 x4 h rx1 rx4 e2) (fun r2 b2 z2 => ?_)
      refine j_if_eq (tgt := 83) (pc' := 33) dX0_quarrels_30 (by decide) rfl r2 (fun c3 => ?_) (fun c3 => ?_)
      · rw [if_pos c3] at H
        refine j_sub (lv' := [(0, vr x0), (1, vi x1), (2, vl x2), (4, vi x4)]) [0, 1, 2, 3] rfl ?_
        exact tX0_quarrels_83 _ hk5 x0 x1 x2 x4 p2.2 rx1 rx2 rx4 H
      · rw [if_neg c3] at H
        refine j_iload_n (i := 1) (pc' := 34) dX0_quarrels_33 rfl rfl 1 rfl ?_
        refine j_iload (pc' := 36) dX0_quarrels_34 rfl 4 rfl ?_
        obtain ⟨p4, e4, H⟩ := bs H
        refine j_cSb (y := yX0_has) (dY := 1) (vs := [vi x1, vi x5]) (st := []) (pc' := 39) dX0_quarrels_36 rfl ymX0_has ysX0_has ml_X0_67 (by decide) rfl (Nat.le_of_ble_eq_true rfl) (Nat.le_of_ble_eq_true rfl) (tX0_has x1 x5 p2.2 rx1 rx5 e4) (fun r4 b4 z4 => ?_)
        refine j_if_eq (tgt := 77) (pc' := 42) dX0_quarrels_39 (by decide) rfl r4 (fun c5 => ?_) (fun c5 => ?_)
        · rw [if_pos c5] at H
          exact tX0_quarrels_77 _ _ hk5 ih x0 x1 x2 x4 x5 p4.2 rx1 rx2 rx4 rx5 H
        · rw [if_neg c5] at H
          refine j_aload_n (i := 0) (pc' := 43) dX0_quarrels_42 rfl rfl 0 rfl ?_
          refine j_iload (pc' := 45) dX0_quarrels_43 rfl 3 rfl ?_
          refine j_iload (pc' := 47) dX0_quarrels_45 rfl 4 rfl ?_
          obtain ⟨u6, e6, H⟩ := bs H
          obtain ⟨p7, e7, H⟩ := bs H
          refine j_cVi (y := yX7_weightOf) (dY := 1) (vs := [vi x4, vi x5]) (st := []) (q := x0) (pc' := 50) dX0_quarrels_47 rfl ymX7_weightOf yvX7_weightOf ml_X0_42 (by decide) rfl (Nat.le_of_ble_eq_true rfl) (Nat.le_of_ble_eq_true rfl) e6 (tX7_weightOf x0 x4 x5 p4.2 rx4 rx5 e7) (fun r7 z7 => ?_)
          refine j_istore (lv' := [(0, vr x0), (1, vi x1), (2, vl x2), (4, vi x4), (5, vi x5), (6, vi p7.1)]) (pc' := 52) dX0_quarrels_50 rfl (by decide) [1, 2, 3, 4, 5, 0] rfl ?_
          refine j_lload_n (i := 2) (pc' := 53) dX0_quarrels_52 rfl rfl 2 rfl ?_
          refine j_aload_n (i := 0) (pc' := 54) dX0_quarrels_53 rfl rfl 0 rfl ?_
          refine j_iload (pc' := 56) dX0_quarrels_54 rfl 3 rfl ?_
          refine j_iload (pc' := 58) dX0_quarrels_56 rfl 4 rfl ?_
          obtain ⟨u8, e8, H⟩ := bs H
          obtain ⟨p9, e9, H⟩ := bs H
          refine j_cVi (y := yX7_likeOf) (dY := 1) (vs := [vi x4, vi x5]) (st := [vl x2]) (q := x0) (pc' := 61) dX0_quarrels_58 rfl ymX7_likeOf yvX7_likeOf ml_X0_38 (by decide) rfl (Nat.le_of_ble_eq_true rfl) (Nat.le_of_ble_eq_true rfl) e8 (tX7_likeOf x0 x4 x5 p7.2 rx4 rx5 e9) (fun r9 z9 => ?_)
          refine j_iconst (pc' := 62) dX0_quarrels_61 rfl ?_
          refine j_icmp_ne (tgt := 72) (pc' := 65) dX0_quarrels_62 (by decide) rfl r9 ⟨by decide, by decide⟩ (fun c10 => ?_) (fun c10 => ?_)
          · rw [if_neg c10] at H
            refine j_iload (pc' := 74) dX0_quarrels_72 rfl 5 rfl ?_
            refine j_i2l (pc' := 75) dX0_quarrels_74 rfl r7 ?_
            refine j_sub (lv' := [(0, vr x0), (1, vi x1), (4, vi x4), (5, vi x5)]) [0, 1, 3, 4] rfl ?_
            exact tX0_quarrels_75 _ _ hk5 ih x0 x1 x4 x5 p7.1 x2 p9.2 rx1 rx4 rx5 (R32_l r7) rx2 H
          · rw [if_pos c10] at H
            refine j_iload (pc' := 67) dX0_quarrels_65 rfl 5 rfl ?_
            refine j_ineg (pc' := 68) dX0_quarrels_67 rfl ?_
            obtain ⟨u11, e11, H⟩ := bs H
            have r11 := c32_R e11
            refine j_i2l (pc' := 69) dX0_quarrels_68 rfl r11 ?_
            refine j_goto (tgt := 75) dX0_quarrels_69 (by decide) ?_
            refine j_sub (lv' := [(0, vr x0), (1, vi x1), (4, vi x4), (5, vi x5)]) [0, 1, 3, 4] rfl ?_
            exact tX0_quarrels_75 _ _ hk5 ih x0 x1 x4 x5 (-p7.1) x2 p9.2 rx1 rx4 rx5 (R32_l r11) rx2 H
noncomputable def fX0_quarrels_5 : Nat → Nat → Int → Int → Int → Hp → Option (Int × Hp)
  | 0, _, _, _, _, _ => none
  | n + 1, x0, x1, x2, x4, h => (getI h 6 x0 0).bind fun v1 => if v1 ≤ x4 then (fX0_quarrels_89 x2 h) else (fX0_quarrels_17 (fX0_quarrels_5 n) FU x0 x1 x2 x4 0 h)
theorem tX0_quarrels_5 {L : Nat} {xs : Nat → Int32} {l : Launch} {res : Int × Hp} : ∀ (n : Nat) (x0 : Nat) (x1 : Int) (x2 : Int) (x4 : Int) (h : Hp), R32 x1 → R64 x2 → R32 x4 → fX0_quarrels_5 n x0 x1 x2 x4 h = some res → J L xs l RX0 cX0_quarrels 7 false 2 (QL res) 0 0 5 [(0, vr x0), (1, vi x1), (2, vl x2), (4, vi x4)] [] h := by
  intro n
  induction n with
  | zero => intro x0 x1 x2 x4 h rx1 rx2 rx4 H; cases H
  | succ n ih =>
    intro x0 x1 x2 x4 h rx1 rx2 rx4 H
    rw [fX0_quarrels_5] at H
    refine j_iload (pc' := 7) dX0_quarrels_5 rfl 3 rfl ?_
    refine j_aload_n (i := 0) (pc' := 8) dX0_quarrels_7 rfl rfl 0 rfl ?_
    obtain ⟨v1, e1, H⟩ := bs H
    refine j_getI (pc' := 11) dX0_quarrels_8 rfl fl_X0_33 e1 (fun r1 => ?_)
    refine j_icmp_ge (tgt := 89) (pc' := 14) dX0_quarrels_11 (by decide) rfl rx4 r1 (fun c2 => ?_) (fun c2 => ?_)
    · rw [if_pos c2] at H
      refine j_sub (lv' := [(2, vl x2)]) [2] rfl ?_
      exact tX0_quarrels_89   x2 h rx2 H
    · rw [if_neg c2] at H
      refine j_iconst (pc' := 15) dX0_quarrels_14 rfl ?_
      refine j_istore (lv' := [(0, vr x0), (1, vi x1), (2, vl x2), (4, vi x4), (5, vi 0)]) (pc' := 17) dX0_quarrels_15 rfl (by decide) [1, 2, 3, 4, 0] rfl ?_
      exact tX0_quarrels_17 _ ih FU x0 x1 x2 x4 0 h rx1 rx2 rx4 ⟨by decide, by decide⟩ H
noncomputable def fX0_quarrels (a0 : Nat) (a1 : Int) (h : Hp) : Option (Int × Hp) :=
  fX0_quarrels_5 FU a0 a1 0 1 h
theorem tX0_quarrels {L : Nat} {xs : Nat → Int32} {l : Launch} {res : Int × Hp} (a0 : Nat) (a1 : Int) (h : Hp) (ra1 : R32 a1) (H : fX0_quarrels a0 a1 h = some res) : J L xs l RX0 cX0_quarrels 7 false 2 (QL res) 0 0 0 (alv 0 [vr a0, vi a1]) [] h := by
  unfold fX0_quarrels at H
  show J L xs l RX0 cX0_quarrels 7 false 2 (QL res) 0 0 0 [(0, vr a0), (1, vi a1)] [] h
  refine j_lconst (z := 0) (pc' := 1) dX0_quarrels_0 rfl rfl ?_
  refine j_lstore_n (i := 2) (lv' := [(0, vr a0), (1, vi a1), (2, vl 0)]) (pc' := 2) dX0_quarrels_1 rfl rfl (by decide) [1, 2, 0] rfl ?_
  refine j_iconst (pc' := 3) dX0_quarrels_2 rfl ?_
  refine j_istore (lv' := [(0, vr a0), (1, vi a1), (2, vl 0), (4, vi 1)]) (pc' := 5) dX0_quarrels_3 rfl (by decide) [1, 2, 3, 0] rfl ?_
  exact tX0_quarrels_5   FU a0 a1 0 1 h ra1 ⟨by decide, by decide⟩ ⟨by decide, by decide⟩ H
-- X0_ofHeap
noncomputable def fX0_ofHeap (a0 : Nat) (a1 : Int) (a2 : Int) (h : Hp) : Option (Int × Hp) :=
  if a1 = 0 then ((fX0_spread a0 a2 h).bind fun p2 => some (p2.1, p2.2)) else if a1 = 1 then ((fX0_middleOf a0 a2 h).bind fun p4 => (fX0_sumFrom a0 p4.1 a2 p4.2).bind fun p5 => some (p5.1, p5.2)) else if a1 = 2 then ((fX0_width a0 a2 h).bind fun p7 => some (p7.1, p7.2)) else ((fX0_quarrels a0 a2 h).bind fun p8 => some (p8.1, p8.2))
theorem tX0_ofHeap {L : Nat} {xs : Nat → Int32} {l : Launch} {res : Int × Hp} (a0 : Nat) (a1 : Int) (a2 : Int) (h : Hp) (ra1 : R32 a1) (ra2 : R32 a2) (H : fX0_ofHeap a0 a1 a2 h = some res) : J L xs l RX0 cX0_ofHeap 3 false 4 (QL res) 0 0 0 (alv 0 [vr a0, vi a1, vi a2]) [] h := by
  unfold fX0_ofHeap at H
  show J L xs l RX0 cX0_ofHeap 3 false 4 (QL res) 0 0 0 [(0, vr a0), (1, vi a1), (2, vi a2)] [] h
  refine j_iload_n (i := 1) (pc' := 1) dX0_ofHeap_0 rfl rfl 1 rfl ?_
  by_cases c1 : a1 = 0
  · rw [if_pos c1] at H
    refine j_tabIn (tgt := 28) (off := 27) dX0_ofHeap_1 ra1 (by omega) (by omega) (by rw [c1]; rfl) (by decide) ?_
    refine j_aload_n (i := 0) (pc' := 29) dX0_ofHeap_28 rfl rfl 0 rfl ?_
    refine j_iload_n (i := 2) (pc' := 30) dX0_ofHeap_29 rfl rfl 2 rfl ?_
    obtain ⟨p2, e2, H⟩ := bs H
    refine j_cSl (y := yX0_spread) (dY := 2) (vs := [vr a0, vi a2]) (st := []) (pc' := 33) dX0_ofHeap_30 rfl ymX0_spread ysX0_spread ml_X0_51 (by decide) rfl (Nat.le_of_ble_eq_true rfl) (Nat.le_of_ble_eq_true rfl) (tX0_spread a0 a2 h ra2 e2) (fun r2 z2 => ?_)
    obtain rfl := Option.some.inj H
    exact j_lret dX0_ofHeap_33 r2 ⟨rfl, rfl⟩
  rw [if_neg c1] at H
  by_cases c3 : a1 = 1
  · rw [if_pos c3] at H
    refine j_tabIn (tgt := 34) (off := 33) dX0_ofHeap_1 ra1 (by omega) (by omega) (by rw [c3]; rfl) (by decide) ?_
    refine j_aload_n (i := 0) (pc' := 35) dX0_ofHeap_34 rfl rfl 0 rfl ?_
    refine j_aload_n (i := 0) (pc' := 36) dX0_ofHeap_35 rfl rfl 0 rfl ?_
    refine j_iload_n (i := 2) (pc' := 37) dX0_ofHeap_36 rfl rfl 2 rfl ?_
    obtain ⟨p4, e4, H⟩ := bs H
    refine j_cSi (y := yX0_middleOf) (dY := 3) (vs := [vr a0, vi a2]) (st := [vr a0]) (pc' := 40) dX0_ofHeap_37 rfl ymX0_middleOf ysX0_middleOf ml_X0_54 (by decide) rfl (Nat.le_of_ble_eq_true rfl) (Nat.le_of_ble_eq_true rfl) (tX0_middleOf a0 a2 h ra2 e4) (fun r4 z4 => ?_)
    refine j_iload_n (i := 2) (pc' := 41) dX0_ofHeap_40 rfl rfl 2 rfl ?_
    obtain ⟨p5, e5, H⟩ := bs H
    refine j_cSl (y := yX0_sumFrom) (dY := 2) (vs := [vr a0, vi p4.1, vi a2]) (st := []) (pc' := 44) dX0_ofHeap_41 rfl ymX0_sumFrom ysX0_sumFrom ml_X0_58 (by decide) rfl (Nat.le_of_ble_eq_true rfl) (Nat.le_of_ble_eq_true rfl) (tX0_sumFrom a0 p4.1 a2 p4.2 r4 ra2 e5) (fun r5 z5 => ?_)
    obtain rfl := Option.some.inj H
    exact j_lret dX0_ofHeap_44 r5 ⟨rfl, rfl⟩
  rw [if_neg c3] at H
  by_cases c6 : a1 = 2
  · rw [if_pos c6] at H
    refine j_tabIn (tgt := 45) (off := 44) dX0_ofHeap_1 ra1 (by omega) (by omega) (by rw [c6]; rfl) (by decide) ?_
    refine j_aload_n (i := 0) (pc' := 46) dX0_ofHeap_45 rfl rfl 0 rfl ?_
    refine j_iload_n (i := 2) (pc' := 47) dX0_ofHeap_46 rfl rfl 2 rfl ?_
    obtain ⟨p7, e7, H⟩ := bs H
    refine j_cSl (y := yX0_width) (dY := 3) (vs := [vr a0, vi a2]) (st := []) (pc' := 50) dX0_ofHeap_47 rfl ymX0_width ysX0_width ml_X0_61 (by decide) rfl (Nat.le_of_ble_eq_true rfl) (Nat.le_of_ble_eq_true rfl) (tX0_width a0 a2 h ra2 e7) (fun r7 z7 => ?_)
    obtain rfl := Option.some.inj H
    exact j_lret dX0_ofHeap_50 r7 ⟨rfl, rfl⟩
  rw [if_neg c6] at H
  refine j_tabOut (tgt := 51) dX0_ofHeap_1 ra1 (by omega) (by decide) ?_
  refine j_aload_n (i := 0) (pc' := 52) dX0_ofHeap_51 rfl rfl 0 rfl ?_
  refine j_iload_n (i := 2) (pc' := 53) dX0_ofHeap_52 rfl rfl 2 rfl ?_
  obtain ⟨p8, e8, H⟩ := bs H
  refine j_cSl (y := yX0_quarrels) (dY := 2) (vs := [vr a0, vi a2]) (st := []) (pc' := 56) dX0_ofHeap_53 rfl ymX0_quarrels ysX0_quarrels ml_X0_64 (by decide) rfl (Nat.le_of_ble_eq_true rfl) (Nat.le_of_ble_eq_true rfl) (tX0_quarrels a0 a2 h ra2 e8) (fun r8 z8 => ?_)
  obtain rfl := Option.some.inj H
  exact j_lret dX0_ofHeap_56 r8 ⟨rfl, rfl⟩
-- X0_with
noncomputable def fX0_with_16 (s0 : Int) (h : Hp) : Option (Int × Hp) :=
  some (s0, h)
theorem tX0_with_16 {L : Nat} {xs : Nat → Int32} {l : Launch} {res : Int × Hp} (s0 : Int) (h : Hp) (rs0 : R64 s0) (H : fX0_with_16 s0 h = some res) : J L xs l RX0 cX0_with 5 false 1 (QL res) 0 0 16 [] [vl s0] h := by
  unfold fX0_with_16 at H
  obtain rfl := Option.some.inj H
  exact j_lret dX0_with_16 rs0 ⟨rfl, rfl⟩
noncomputable def fX0_with (a0 : Int) (a1 : Int) (a2 : Int) (h : Hp) : Option (Int × Hp) :=
  if a0 = 2 then (fX0_with_16 (max a1 a2) h) else ((c64 (a1 + a2)).bind fun _ => fX0_with_16 (a1 + a2) h)
theorem tX0_with {L : Nat} {xs : Nat → Int32} {l : Launch} {res : Int × Hp} (a0 : Int) (a1 : Int) (a2 : Int) (h : Hp) (ra0 : R32 a0) (ra1 : R64 a1) (ra2 : R64 a2) (H : fX0_with a0 a1 a2 h = some res) : J L xs l RX0 cX0_with 5 false 1 (QL res) 0 0 0 (alv 0 [vi a0, vl a1, vl a2]) [] h := by
  unfold fX0_with at H
  show J L xs l RX0 cX0_with 5 false 1 (QL res) 0 0 0 [(0, vi a0), (1, vl a1), (3, vl a2)] [] h
  refine j_iload_n (i := 0) (pc' := 1) dX0_with_0 rfl rfl 0 rfl ?_
  refine j_iconst (pc' := 2) dX0_with_1 rfl ?_
  refine j_icmp_ne (tgt := 13) (pc' := 5) dX0_with_2 (by decide) rfl ra0 ⟨by decide, by decide⟩ (fun c1 => ?_) (fun c1 => ?_)
  · rw [if_neg c1] at H
    refine j_lload_n (i := 1) (pc' := 14) dX0_with_13 rfl rfl 1 rfl ?_
    refine j_lload_n (i := 3) (pc' := 15) dX0_with_14 rfl rfl 2 rfl ?_
    refine j_ladd (pc' := 16) dX0_with_15 rfl ?_
    obtain ⟨u2, e2, H⟩ := bs H
    have r2 := c64_R e2
    refine j_sub (lv' := []) [] rfl ?_
    exact tX0_with_16   (a1 + a2) h r2 H
  · rw [if_pos c1] at H
    refine j_lload_n (i := 1) (pc' := 6) dX0_with_5 rfl rfl 1 rfl ?_
    refine j_lload_n (i := 3) (pc' := 7) dX0_with_6 rfl rfl 2 rfl ?_
    refine j_mmaxl (pc' := 10) dX0_with_7 rfl ml_X0_45 (by decide) (Nat.le_of_ble_eq_true rfl) ra1 ra2 ?_
    refine j_goto (tgt := 16) dX0_with_10 (by decide) ?_
    refine j_sub (lv' := []) [] rfl ?_
    exact tX0_with_16   (max a1 a2) h (R64_max ra1 ra2) H
-- X0_ofParting
noncomputable def fX0_ofParting_41 (x3 : Int) (h : Hp) : Option (Int × Hp) :=
  some (x3, h)
theorem tX0_ofParting_41 {L : Nat} {xs : Nat → Int32} {l : Launch} {res : Int × Hp} (x3 : Int) (h : Hp) (rx3 : R64 x3) (H : fX0_ofParting_41 x3 h = some res) : J L xs l RX0 cX0_ofParting 6 false 5 (QL res) 0 0 41 [(3, vl x3)] [] h := by
  unfold fX0_ofParting_41 at H
  refine j_lload_n (i := 3) (pc' := 42) dX0_ofParting_41 rfl rfl 0 rfl ?_
  obtain rfl := Option.some.inj H
  exact j_lret dX0_ofParting_42 rx3 ⟨rfl, rfl⟩
noncomputable def fX0_ofParting_9 : Nat → Nat → Int → Nat → Int → Int → Hp → Option (Int × Hp)
  | 0, _, _, _, _, _, _ => none
  | n + 1, x0, x1, x2, x3, x5, h => (getI h 5 x2 1).bind fun v1 => if v1 ≤ x5 then (fX0_ofParting_41 x3 h) else ((cob h 5 x2).bind fun _ => (fX6_membersOf x2 x5 h).bind fun p4 => (fX0_ofHeap x0 x1 p4.1 p4.2).bind fun p5 => (fX0_with x1 x3 p5.1 p5.2).bind fun p6 => (c32 (x5 + 1)).bind fun _ => fX0_ofParting_9 n x0 x1 x2 p6.1 (x5 + 1) p6.2)
theorem tX0_ofParting_9 {L : Nat} {xs : Nat → Int32} {l : Launch} {res : Int × Hp} : ∀ (n : Nat) (x0 : Nat) (x1 : Int) (x2 : Nat) (x3 : Int) (x5 : Int) (h : Hp), R32 x1 → R64 x3 → R32 x5 → fX0_ofParting_9 n x0 x1 x2 x3 x5 h = some res → J L xs l RX0 cX0_ofParting 6 false 5 (QL res) 0 0 9 [(0, vr x0), (1, vi x1), (2, vr x2), (3, vl x3), (5, vi x5)] [] h := by
  intro n
  induction n with
  | zero => intro x0 x1 x2 x3 x5 h rx1 rx3 rx5 H; cases H
  | succ n ih =>
    intro x0 x1 x2 x3 x5 h rx1 rx3 rx5 H
    rw [fX0_ofParting_9] at H
    refine j_iload (pc' := 11) dX0_ofParting_9 rfl 4 rfl ?_
    refine j_aload_n (i := 2) (pc' := 12) dX0_ofParting_11 rfl rfl 2 rfl ?_
    obtain ⟨v1, e1, H⟩ := bs H
    refine j_getI (pc' := 15) dX0_ofParting_12 rfl fl_X0_15 e1 (fun r1 => ?_)
    refine j_icmp_ge (tgt := 41) (pc' := 18) dX0_ofParting_15 (by decide) rfl rx5 r1 (fun c2 => ?_) (fun c2 => ?_)
    · rw [if_pos c2] at H
      refine j_sub (lv' := [(3, vl x3)]) [3] rfl ?_
      exact tX0_ofParting_41   x3 h rx3 H
    · rw [if_neg c2] at H
      refine j_iload_n (i := 1) (pc' := 19) dX0_ofParting_18 rfl rfl 1 rfl ?_
      refine j_lload_n (i := 3) (pc' := 20) dX0_ofParting_19 rfl rfl 3 rfl ?_
      refine j_aload_n (i := 0) (pc' := 21) dX0_ofParting_20 rfl rfl 0 rfl ?_
      refine j_iload_n (i := 1) (pc' := 22) dX0_ofParting_21 rfl rfl 1 rfl ?_
      refine j_aload_n (i := 2) (pc' := 23) dX0_ofParting_22 rfl rfl 2 rfl ?_
      refine j_iload (pc' := 25) dX0_ofParting_23 rfl 4 rfl ?_
      obtain ⟨u3, e3, H⟩ := bs H
      obtain ⟨p4, e4, H⟩ := bs H
      refine j_cVi (y := yX6_membersOf) (dY := 1) (vs := [vi x5]) (st := [vi x1, vr x0, vl x3, vi x1]) (q := x2) (pc' := 28) dX0_ofParting_25 rfl ymX6_membersOf yvX6_membersOf ml_X0_21 (by decide) rfl (Nat.le_of_ble_eq_true rfl) (Nat.le_of_ble_eq_true rfl) e3 (tX6_membersOf x2 x5 h rx5 e4) (fun r4 z4 => ?_)
      obtain ⟨p5, e5, H⟩ := bs H
      refine j_cSl (y := yX0_ofHeap) (dY := 4) (vs := [vr x0, vi x1, vi p4.1]) (st := [vl x3, vi x1]) (pc' := 31) dX0_ofParting_28 rfl ymX0_ofHeap ysX0_ofHeap ml_X0_25 (by decide) rfl (Nat.le_of_ble_eq_true rfl) (Nat.le_of_ble_eq_true rfl) (tX0_ofHeap x0 x1 p4.1 p4.2 rx1 r4 e5) (fun r5 z5 => ?_)
      obtain ⟨p6, e6, H⟩ := bs H
      refine j_cSl (y := yX0_with) (dY := 1) (vs := [vi x1, vl x3, vl p5.1]) (st := []) (pc' := 34) dX0_ofParting_31 rfl ymX0_with ysX0_with ml_X0_29 (by decide) rfl (Nat.le_of_ble_eq_true rfl) (Nat.le_of_ble_eq_true rfl) (tX0_with x1 x3 p5.1 p5.2 rx1 rx3 r5 e6) (fun r6 z6 => ?_)
      refine j_lstore_n (i := 3) (lv' := [(0, vr x0), (1, vi x1), (2, vr x2), (3, vl p6.1), (5, vi x5)]) (pc' := 35) dX0_ofParting_34 rfl rfl (by decide) [1, 2, 3, 0, 4] rfl ?_
      obtain ⟨u7, e7, H⟩ := bs H
      have r7 := c32_R e7
      refine j_iinc (k0 := 4) (lv' := [(0, vr x0), (1, vi x1), (2, vr x2), (3, vl p6.1), (5, vi (x5 + 1))]) (pc' := 38) dX0_ofParting_35 rfl rfl (by decide) [1, 2, 3, 4, 0] rfl ?_
      refine j_goto (tgt := 9) dX0_ofParting_38 (by decide) ?_
      exact ih x0 x1 x2 p6.1 (x5 + 1) p6.2 rx1 r6 r7 H
noncomputable def fX0_ofParting (a0 : Nat) (a1 : Int) (a2 : Nat) (h : Hp) : Option (Int × Hp) :=
  (fX0_ground a0 a1 h).bind fun p1 => fX0_ofParting_9 FU a0 a1 a2 p1.1 0 p1.2
theorem tX0_ofParting {L : Nat} {xs : Nat → Int32} {l : Launch} {res : Int × Hp} (a0 : Nat) (a1 : Int) (a2 : Nat) (h : Hp) (ra1 : R32 a1) (H : fX0_ofParting a0 a1 a2 h = some res) : J L xs l RX0 cX0_ofParting 6 false 5 (QL res) 0 0 0 (alv 0 [vr a0, vi a1, vr a2]) [] h := by
  unfold fX0_ofParting at H
  show J L xs l RX0 cX0_ofParting 6 false 5 (QL res) 0 0 0 [(0, vr a0), (1, vi a1), (2, vr a2)] [] h
  refine j_aload_n (i := 0) (pc' := 1) dX0_ofParting_0 rfl rfl 0 rfl ?_
  refine j_iload_n (i := 1) (pc' := 2) dX0_ofParting_1 rfl rfl 1 rfl ?_
  obtain ⟨p1, e1, H⟩ := bs H
  refine j_cSl (y := yX0_ground) (dY := 2) (vs := [vr a0, vi a1]) (st := []) (pc' := 5) dX0_ofParting_2 rfl ymX0_ground ysX0_ground ml_X0_9 (by decide) rfl (Nat.le_of_ble_eq_true rfl) (Nat.le_of_ble_eq_true rfl) (tX0_ground a0 a1 h ra1 e1) (fun r1 z1 => ?_)
  refine j_lstore_n (i := 3) (lv' := [(0, vr a0), (1, vi a1), (2, vr a2), (3, vl p1.1)]) (pc' := 6) dX0_ofParting_5 rfl rfl (by decide) [1, 2, 3, 0] rfl ?_
  refine j_iconst (pc' := 7) dX0_ofParting_6 rfl ?_
  refine j_istore (lv' := [(0, vr a0), (1, vi a1), (2, vr a2), (3, vl p1.1), (5, vi 0)]) (pc' := 9) dX0_ofParting_7 rfl (by decide) [1, 2, 3, 4, 0] rfl ?_
  exact tX0_ofParting_9   FU a0 a1 a2 p1.1 0 p1.2 ra1 r1 ⟨by decide, by decide⟩ H
-- X1_init
noncomputable def fX1_init (a0 : Nat) (h : Hp) : Option (Hp) :=
  (cob h 0 a0).bind fun _ => (putV h 0 a0 0 (vi 0)).bind fun h2 => (putV h2 0 a0 1 (vi 0)).bind fun h3 => (crf h3 a0).bind fun _ => (newO h3 (rar 6 20 (fun _ => 0))).bind fun p5 => (crf p5.2 p5.1).bind fun _ => (putV p5.2 0 a0 2 (vr p5.1)).bind fun h7 => some h7
theorem tX1_init {L : Nat} {xs : Nat → Int32} {l : Launch} {res : Hp} (a0 : Nat) (h : Hp)  (H : fX1_init a0 h = some res) : J L xs l RX1 cX1_init 1 true 1 (QV res) 1 20 0 (alv 0 [vr a0]) [] h := by
  unfold fX1_init at H
  show J L xs l RX1 cX1_init 1 true 1 (QV res) 1 20 0 [(0, vr a0)] [] h
  refine j_aload_n (i := 0) (pc' := 1) dX1_init_0 rfl rfl 0 rfl ?_
  obtain ⟨u1, e1, H⟩ := bs H
  refine j_objInit (pc' := 4) dX1_init_1 rfl ml_X1_3 oi_1 oi_2 (by decide) e1 (Nat.le_of_ble_eq_true rfl) ?_
  refine j_aload_n (i := 0) (pc' := 5) dX1_init_4 rfl rfl 0 rfl ?_
  refine j_iconst (pc' := 6) dX1_init_5 rfl ?_
  obtain ⟨h2, e2, H⟩ := bs H
  refine j_putV (pc' := 9) dX1_init_6 rfl fp_X1_9 tI ⟨by decide, by decide⟩ e2 ?_
  refine j_aload_n (i := 0) (pc' := 10) dX1_init_9 rfl rfl 0 rfl ?_
  refine j_iconst (pc' := 11) dX1_init_10 rfl ?_
  obtain ⟨h3, e3, H⟩ := bs H
  refine j_putV (pc' := 14) dX1_init_11 rfl fp_X1_15 tI ⟨by decide, by decide⟩ e3 ?_
  refine j_aload_n (i := 0) (pc' := 15) dX1_init_14 rfl rfl 0 rfl ?_
  refine j_bipush (pc' := 17) dX1_init_15 rfl (by decide +kernel) ?_
  obtain ⟨u4, e4, H⟩ := bs H
  obtain ⟨p5, e5, H⟩ := bs H
  refine j_newRp (N := 20) (rc := 0) (rs := 0) (pc' := 20) rfl (by decide) dX1_init_17 rfl ck_X1_18 (Or.inr rfl) ⟨(crf_R e4), trivial⟩ ⟨(crf_R e4), trivial⟩ e5 ?_
  obtain ⟨u6, e6, H⟩ := bs H
  obtain ⟨h7, e7, H⟩ := bs H
  refine j_putF (pc' := 23) dX1_init_20 rfl rfl fp_X1_20 tR (crf_R e6) e7 ?_
  obtain rfl := Option.some.inj H
  exact j_vret dX1_init_23 ⟨rfl, rfl⟩
-- X6_init
noncomputable def fX6_init (a0 : Nat) (h : Hp) : Option (Hp) :=
  (cob h 5 a0).bind fun _ => (putV h 5 a0 0 (vi 0)).bind fun h2 => (putV h2 5 a0 1 (vi 0)).bind fun h3 => (crf h3 a0).bind fun _ => (newO h3 (arr 0 12 (fun _ => 0))).bind fun p5 => (crf p5.2 p5.1).bind fun _ => (putV p5.2 5 a0 2 (vr p5.1)).bind fun h7 => (crf h7 a0).bind fun _ => (newO h7 (arr 0 13 (fun _ => 0))).bind fun p9 => (crf p9.2 p9.1).bind fun _ => (putV p9.2 5 a0 3 (vr p9.1)).bind fun h11 => some h11
theorem tX6_init {L : Nat} {xs : Nat → Int32} {l : Launch} {res : Hp} (a0 : Nat) (h : Hp)  (H : fX6_init a0 h = some res) : J L xs l RX6 cX6_init 1 true 1 (QV res) 2 25 0 (alv 0 [vr a0]) [] h := by
  unfold fX6_init at H
  show J L xs l RX6 cX6_init 1 true 1 (QV res) 2 25 0 [(0, vr a0)] [] h
  refine j_aload_n (i := 0) (pc' := 1) dX6_init_0 rfl rfl 0 rfl ?_
  obtain ⟨u1, e1, H⟩ := bs H
  refine j_objInit (pc' := 4) dX6_init_1 rfl ml_X6_3 oi_1 oi_2 (by decide) e1 (Nat.le_of_ble_eq_true rfl) ?_
  refine j_aload_n (i := 0) (pc' := 5) dX6_init_4 rfl rfl 0 rfl ?_
  refine j_iconst (pc' := 6) dX6_init_5 rfl ?_
  obtain ⟨h2, e2, H⟩ := bs H
  refine j_putV (pc' := 9) dX6_init_6 rfl fp_X6_9 tI ⟨by decide, by decide⟩ e2 ?_
  refine j_aload_n (i := 0) (pc' := 10) dX6_init_9 rfl rfl 0 rfl ?_
  refine j_iconst (pc' := 11) dX6_init_10 rfl ?_
  obtain ⟨h3, e3, H⟩ := bs H
  refine j_putV (pc' := 14) dX6_init_11 rfl fp_X6_15 tI ⟨by decide, by decide⟩ e3 ?_
  refine j_aload_n (i := 0) (pc' := 15) dX6_init_14 rfl rfl 0 rfl ?_
  refine j_bipush (pc' := 17) dX6_init_15 rfl (by decide +kernel) ?_
  obtain ⟨u4, e4, H⟩ := bs H
  obtain ⟨p5, e5, H⟩ := bs H
  refine j_newIp (N := 12) (rc := 1) (rs := 13) (pc' := 19) rfl (by decide) dX6_init_17 rfl ak_int ⟨(crf_R e4), trivial⟩ ⟨(crf_R e4), trivial⟩ e5 ?_
  obtain ⟨u6, e6, H⟩ := bs H
  obtain ⟨h7, e7, H⟩ := bs H
  refine j_putF (pc' := 22) dX6_init_19 rfl rfl fp_X6_18 tR (crf_R e6) e7 ?_
  refine j_aload_n (i := 0) (pc' := 23) dX6_init_22 rfl rfl 0 rfl ?_
  refine j_bipush (pc' := 25) dX6_init_23 rfl (by decide +kernel) ?_
  obtain ⟨u8, e8, H⟩ := bs H
  obtain ⟨p9, e9, H⟩ := bs H
  refine j_newIp (N := 13) (rc := 0) (rs := 0) (pc' := 27) rfl (by decide) dX6_init_25 rfl ak_int ⟨(crf_R e8), trivial⟩ ⟨(crf_R e8), trivial⟩ e9 ?_
  obtain ⟨u10, e10, H⟩ := bs H
  obtain ⟨h11, e11, H⟩ := bs H
  refine j_putF (pc' := 30) dX6_init_27 rfl rfl fp_X6_22 tR (crf_R e10) e11 ?_
  obtain rfl := Option.some.inj H
  exact j_vret dX6_init_30 ⟨rfl, rfl⟩
-- X7_init
noncomputable def fX7_init (a0 : Nat) (h : Hp) : Option (Hp) :=
  (cob h 6 a0).bind fun _ => (putV h 6 a0 0 (vi 1)).bind fun h2 => (crf h2 a0).bind fun _ => (newO h2 (arr 0 48 (fun _ => 0))).bind fun p4 => (crf p4.2 p4.1).bind fun _ => (putV p4.2 6 a0 1 (vr p4.1)).bind fun h6 => (crf h6 a0).bind fun _ => (newO h6 (arr 0 144 (fun _ => 0))).bind fun p8 => (crf p8.2 p8.1).bind fun _ => (putV p8.2 6 a0 2 (vr p8.1)).bind fun h10 => (crf h10 a0).bind fun _ => (newO h10 (arr 0 144 (fun _ => 0))).bind fun p12 => (crf p12.2 p12.1).bind fun _ => (putV p12.2 6 a0 3 (vr p12.1)).bind fun h14 => (crf h14 a0).bind fun _ => (newO h14 (arr 0 144 (fun _ => 0))).bind fun p16 => (crf p16.2 p16.1).bind fun _ => (putV p16.2 6 a0 4 (vr p16.1)).bind fun h18 => (crf h18 a0).bind fun _ => (newO h18 (obj 5 [vi 0, vi 0, vr 0, vr 0])).bind fun p20 => (cob p20.2 5 p20.1).bind fun _ => (crf p20.2 p20.1).bind fun _ => (crf p20.2 a0).bind fun _ => (fX6_init p20.1 p20.2).bind fun h24 => (crf h24 p20.1).bind fun _ => (putV h24 6 a0 5 (vr p20.1)).bind fun h26 => some h26
theorem tX7_init {L : Nat} {xs : Nat → Int32} {l : Launch} {res : Hp} (a0 : Nat) (h : Hp)  (H : fX7_init a0 h = some res) : J L xs l RX7 cX7_init 1 true 2 (QV res) 7 509 0 (alv 0 [vr a0]) [] h := by
  unfold fX7_init at H
  show J L xs l RX7 cX7_init 1 true 2 (QV res) 7 509 0 [(0, vr a0)] [] h
  refine j_aload_n (i := 0) (pc' := 1) dX7_init_0 rfl rfl 0 rfl ?_
  obtain ⟨u1, e1, H⟩ := bs H
  refine j_objInit (pc' := 4) dX7_init_1 rfl ml_X7_3 oi_1 oi_2 (by decide) e1 (Nat.le_of_ble_eq_true rfl) ?_
  refine j_aload_n (i := 0) (pc' := 5) dX7_init_4 rfl rfl 0 rfl ?_
  refine j_iconst (pc' := 6) dX7_init_5 rfl ?_
  obtain ⟨h2, e2, H⟩ := bs H
  refine j_putV (pc' := 9) dX7_init_6 rfl fp_X7_9 tI ⟨by decide, by decide⟩ e2 ?_
  refine j_aload_n (i := 0) (pc' := 10) dX7_init_9 rfl rfl 0 rfl ?_
  refine j_bipush (pc' := 12) dX7_init_10 rfl (by decide +kernel) ?_
  obtain ⟨u3, e3, H⟩ := bs H
  obtain ⟨p4, e4, H⟩ := bs H
  refine j_newIp (N := 48) (rc := 6) (rs := 461) (pc' := 14) rfl (by decide) dX7_init_12 rfl ak_int ⟨(crf_R e3), trivial⟩ ⟨(crf_R e3), trivial⟩ e4 ?_
  obtain ⟨u5, e5, H⟩ := bs H
  obtain ⟨h6, e6, H⟩ := bs H
  refine j_putF (pc' := 17) dX7_init_14 rfl rfl fp_X7_15 tR (crf_R e5) e6 ?_
  refine j_aload_n (i := 0) (pc' := 18) dX7_init_17 rfl rfl 0 rfl ?_
  refine j_sipush (pc' := 21) dX7_init_18 rfl (by decide +kernel) ?_
  obtain ⟨u7, e7, H⟩ := bs H
  obtain ⟨p8, e8, H⟩ := bs H
  refine j_newIp (N := 144) (rc := 5) (rs := 317) (pc' := 23) rfl (by decide) dX7_init_21 rfl ak_int ⟨(crf_R e7), trivial⟩ ⟨(crf_R e7), trivial⟩ e8 ?_
  obtain ⟨u9, e9, H⟩ := bs H
  obtain ⟨h10, e10, H⟩ := bs H
  refine j_putF (pc' := 26) dX7_init_23 rfl rfl fp_X7_19 tR (crf_R e9) e10 ?_
  refine j_aload_n (i := 0) (pc' := 27) dX7_init_26 rfl rfl 0 rfl ?_
  refine j_sipush (pc' := 30) dX7_init_27 rfl (by decide +kernel) ?_
  obtain ⟨u11, e11, H⟩ := bs H
  obtain ⟨p12, e12, H⟩ := bs H
  refine j_newIp (N := 144) (rc := 4) (rs := 173) (pc' := 32) rfl (by decide) dX7_init_30 rfl ak_int ⟨(crf_R e11), trivial⟩ ⟨(crf_R e11), trivial⟩ e12 ?_
  obtain ⟨u13, e13, H⟩ := bs H
  obtain ⟨h14, e14, H⟩ := bs H
  refine j_putF (pc' := 35) dX7_init_32 rfl rfl fp_X7_22 tR (crf_R e13) e14 ?_
  refine j_aload_n (i := 0) (pc' := 36) dX7_init_35 rfl rfl 0 rfl ?_
  refine j_sipush (pc' := 39) dX7_init_36 rfl (by decide +kernel) ?_
  obtain ⟨u15, e15, H⟩ := bs H
  obtain ⟨p16, e16, H⟩ := bs H
  refine j_newIp (N := 144) (rc := 3) (rs := 29) (pc' := 41) rfl (by decide) dX7_init_39 rfl ak_int ⟨(crf_R e15), trivial⟩ ⟨(crf_R e15), trivial⟩ e16 ?_
  obtain ⟨u17, e17, H⟩ := bs H
  obtain ⟨h18, e18, H⟩ := bs H
  refine j_putF (pc' := 44) dX7_init_41 rfl rfl fp_X7_25 tR (crf_R e17) e18 ?_
  refine j_aload_n (i := 0) (pc' := 45) dX7_init_44 rfl rfl 0 rfl ?_
  obtain ⟨u19, e19, H⟩ := bs H
  obtain ⟨p20, e20, H⟩ := bs H
  refine j_newp (rc := 2) (rs := 25) (pc' := 48) dX7_init_45 rfl nl_X7_28 ⟨(crf_R e19), trivial⟩ ⟨(crf_R e19), trivial⟩ e20 ?_
  refine j_dup (pc' := 49) dX7_init_48 rfl rfl ?_
  obtain ⟨u21, e21, H⟩ := bs H
  obtain ⟨u22, e22, H⟩ := bs H
  obtain ⟨u23, e23, H⟩ := bs H
  obtain ⟨h24, e24, H⟩ := bs H
  refine j_aN (y := yX6_init) (dY := 1) (vs := []) (st := [vr p20.1, vr a0]) (q := p20.1) (mc := 2) (ms := 25) (rc := 0) (rs := 0) (pc' := 52) dX7_init_49 rfl ymX6_init rfl yiX6_init mn_X7_30 (by decide) rfl (Nat.le_of_ble_eq_true rfl) (Nat.le_of_ble_eq_true rfl) e21 ⟨(crf_R e22), (crf_R e23), trivial⟩ ⟨(crf_R e23), trivial⟩ (tX6_init p20.1 p20.2 e24) ?_
  obtain ⟨u25, e25, H⟩ := bs H
  obtain ⟨h26, e26, H⟩ := bs H
  refine j_putF (pc' := 55) dX7_init_52 rfl rfl fp_X7_31 tR (crf_R e25) e26 ?_
  obtain rfl := Option.some.inj H
  exact j_vret dX7_init_55 ⟨rfl, rfl⟩
-- X6_copyFrom
noncomputable def fX6_copyFrom (a0 : Nat) (a1 : Nat) (h : Hp) : Option (Hp) :=
  (getI h 5 a1 0).bind fun v1 => (putV h 5 a0 0 (vi v1)).bind fun h2 => (getI h2 5 a1 1).bind fun v3 => (putV h2 5 a0 1 (vi v3)).bind fun h4 => (getR h4 5 a1 2).bind fun v5 => (getR h4 5 a0 2).bind fun v6 => (cpyI h4 v5 0 v6 0 12).bind fun h7 => some h7
theorem tX6_copyFrom {L : Nat} {xs : Nat → Int32} {l : Launch} {res : Hp} (a0 : Nat) (a1 : Nat) (h : Hp)  (H : fX6_copyFrom a0 a1 h = some res) : J L xs l RX6 cX6_copyFrom 2 false 1 (QV res) 0 0 0 (alv 0 [vr a0, vr a1]) [] h := by
  unfold fX6_copyFrom at H
  show J L xs l RX6 cX6_copyFrom 2 false 1 (QV res) 0 0 0 [(0, vr a0), (1, vr a1)] [] h
  refine j_aload_n (i := 0) (pc' := 1) dX6_copyFrom_0 rfl rfl 0 rfl ?_
  refine j_aload_n (i := 1) (pc' := 2) dX6_copyFrom_1 rfl rfl 1 rfl ?_
  obtain ⟨v1, e1, H⟩ := bs H
  refine j_getI (pc' := 5) dX6_copyFrom_2 rfl fl_X6_9 e1 (fun r1 => ?_)
  obtain ⟨h2, e2, H⟩ := bs H
  refine j_putV (pc' := 8) dX6_copyFrom_5 rfl fp_X6_9 tI r1 e2 ?_
  refine j_aload_n (i := 0) (pc' := 9) dX6_copyFrom_8 rfl rfl 0 rfl ?_
  refine j_aload_n (i := 1) (pc' := 10) dX6_copyFrom_9 rfl rfl 1 rfl ?_
  obtain ⟨v3, e3, H⟩ := bs H
  refine j_getI (pc' := 13) dX6_copyFrom_10 rfl fl_X6_15 e3 (fun r3 => ?_)
  obtain ⟨h4, e4, H⟩ := bs H
  refine j_putV (pc' := 16) dX6_copyFrom_13 rfl fp_X6_15 tI r3 e4 ?_
  refine j_aload_n (i := 1) (pc' := 17) dX6_copyFrom_16 rfl rfl 1 rfl ?_
  obtain ⟨v5, e5, H⟩ := bs H
  refine j_getR (pc' := 20) dX6_copyFrom_17 rfl fl_X6_18 e5 (fun r5 => ?_)
  refine j_iconst (pc' := 21) dX6_copyFrom_20 rfl ?_
  refine j_aload_n (i := 0) (pc' := 22) dX6_copyFrom_21 rfl rfl 0 rfl ?_
  obtain ⟨v6, e6, H⟩ := bs H
  refine j_getR (pc' := 25) dX6_copyFrom_22 rfl fl_X6_18 e6 (fun r6 => ?_)
  refine j_iconst (pc' := 26) dX6_copyFrom_25 rfl ?_
  refine j_bipush (pc' := 28) dX6_copyFrom_26 rfl (by decide +kernel) ?_
  obtain ⟨h7, e7, H⟩ := bs H
  refine j_cpy (pc' := 31) dX6_copyFrom_28 rfl ml_X6_25 sy_1 sy_2 sy_3 (by decide) (Nat.le_of_ble_eq_true rfl) e7 ?_
  obtain rfl := Option.some.inj H
  exact j_vret dX6_copyFrom_31 ⟨rfl, rfl⟩
-- X7_copyFrom
noncomputable def fX7_copyFrom (a0 : Nat) (a1 : Nat) (h : Hp) : Option (Hp) :=
  (getI h 6 a1 0).bind fun v1 => (putV h 6 a0 0 (vi v1)).bind fun h2 => (getR h2 6 a1 1).bind fun v3 => (getR h2 6 a0 1).bind fun v4 => (getR h2 6 a0 1).bind fun v5 => (aln h2 0 v5).bind fun v6 => (cpyI h2 v3 0 v4 0 v6).bind fun h7 => (getR h7 6 a1 2).bind fun v8 => (getR h7 6 a0 2).bind fun v9 => (getR h7 6 a0 2).bind fun v10 => (aln h7 0 v10).bind fun v11 => (cpyI h7 v8 0 v9 0 v11).bind fun h12 => (getR h12 6 a1 3).bind fun v13 => (getR h12 6 a0 3).bind fun v14 => (getR h12 6 a0 3).bind fun v15 => (aln h12 0 v15).bind fun v16 => (cpyI h12 v13 0 v14 0 v16).bind fun h17 => (getR h17 6 a1 4).bind fun v18 => (getR h17 6 a0 4).bind fun v19 => (getR h17 6 a0 4).bind fun v20 => (aln h17 0 v20).bind fun v21 => (cpyI h17 v18 0 v19 0 v21).bind fun h22 => (getR h22 6 a0 5).bind fun v23 => (getR h22 6 a1 5).bind fun v24 => (cob h22 5 v23).bind fun _ => (fX6_copyFrom v23 v24 h22).bind fun h26 => some h26
theorem tX7_copyFrom {L : Nat} {xs : Nat → Int32} {l : Launch} {res : Hp} (a0 : Nat) (a1 : Nat) (h : Hp)  (H : fX7_copyFrom a0 a1 h = some res) : J L xs l RX7 cX7_copyFrom 2 false 2 (QV res) 0 0 0 (alv 0 [vr a0, vr a1]) [] h := by
  unfold fX7_copyFrom at H
  show J L xs l RX7 cX7_copyFrom 2 false 2 (QV res) 0 0 0 [(0, vr a0), (1, vr a1)] [] h
  refine j_aload_n (i := 0) (pc' := 1) dX7_copyFrom_0 rfl rfl 0 rfl ?_
  refine j_aload_n (i := 1) (pc' := 2) dX7_copyFrom_1 rfl rfl 1 rfl ?_
  obtain ⟨v1, e1, H⟩ := bs H
  refine j_getI (pc' := 5) dX7_copyFrom_2 rfl fl_X7_9 e1 (fun r1 => ?_)
  obtain ⟨h2, e2, H⟩ := bs H
  refine j_putV (pc' := 8) dX7_copyFrom_5 rfl fp_X7_9 tI r1 e2 ?_
  refine j_aload_n (i := 1) (pc' := 9) dX7_copyFrom_8 rfl rfl 1 rfl ?_
  obtain ⟨v3, e3, H⟩ := bs H
  refine j_getR (pc' := 12) dX7_copyFrom_9 rfl fl_X7_15 e3 (fun r3 => ?_)
  refine j_iconst (pc' := 13) dX7_copyFrom_12 rfl ?_
  refine j_aload_n (i := 0) (pc' := 14) dX7_copyFrom_13 rfl rfl 0 rfl ?_
  obtain ⟨v4, e4, H⟩ := bs H
  refine j_getR (pc' := 17) dX7_copyFrom_14 rfl fl_X7_15 e4 (fun r4 => ?_)
  refine j_iconst (pc' := 18) dX7_copyFrom_17 rfl ?_
  refine j_aload_n (i := 0) (pc' := 19) dX7_copyFrom_18 rfl rfl 0 rfl ?_
  obtain ⟨v5, e5, H⟩ := bs H
  refine j_getR (pc' := 22) dX7_copyFrom_19 rfl fl_X7_15 e5 (fun r5 => ?_)
  obtain ⟨v6, e6, H⟩ := bs H
  refine j_alen (kd := 0) (pc' := 23) dX7_copyFrom_22 rfl e6 (fun r6 => ?_)
  obtain ⟨h7, e7, H⟩ := bs H
  refine j_cpy (pc' := 26) dX7_copyFrom_23 rfl ml_X7_45 sy_1 sy_2 sy_3 (by decide) (Nat.le_of_ble_eq_true rfl) e7 ?_
  refine j_aload_n (i := 1) (pc' := 27) dX7_copyFrom_26 rfl rfl 1 rfl ?_
  obtain ⟨v8, e8, H⟩ := bs H
  refine j_getR (pc' := 30) dX7_copyFrom_27 rfl fl_X7_19 e8 (fun r8 => ?_)
  refine j_iconst (pc' := 31) dX7_copyFrom_30 rfl ?_
  refine j_aload_n (i := 0) (pc' := 32) dX7_copyFrom_31 rfl rfl 0 rfl ?_
  obtain ⟨v9, e9, H⟩ := bs H
  refine j_getR (pc' := 35) dX7_copyFrom_32 rfl fl_X7_19 e9 (fun r9 => ?_)
  refine j_iconst (pc' := 36) dX7_copyFrom_35 rfl ?_
  refine j_aload_n (i := 0) (pc' := 37) dX7_copyFrom_36 rfl rfl 0 rfl ?_
  obtain ⟨v10, e10, H⟩ := bs H
  refine j_getR (pc' := 40) dX7_copyFrom_37 rfl fl_X7_19 e10 (fun r10 => ?_)
  obtain ⟨v11, e11, H⟩ := bs H
  refine j_alen (kd := 0) (pc' := 41) dX7_copyFrom_40 rfl e11 (fun r11 => ?_)
  obtain ⟨h12, e12, H⟩ := bs H
  refine j_cpy (pc' := 44) dX7_copyFrom_41 rfl ml_X7_45 sy_1 sy_2 sy_3 (by decide) (Nat.le_of_ble_eq_true rfl) e12 ?_
  refine j_aload_n (i := 1) (pc' := 45) dX7_copyFrom_44 rfl rfl 1 rfl ?_
  obtain ⟨v13, e13, H⟩ := bs H
  refine j_getR (pc' := 48) dX7_copyFrom_45 rfl fl_X7_22 e13 (fun r13 => ?_)
  refine j_iconst (pc' := 49) dX7_copyFrom_48 rfl ?_
  refine j_aload_n (i := 0) (pc' := 50) dX7_copyFrom_49 rfl rfl 0 rfl ?_
  obtain ⟨v14, e14, H⟩ := bs H
  refine j_getR (pc' := 53) dX7_copyFrom_50 rfl fl_X7_22 e14 (fun r14 => ?_)
  refine j_iconst (pc' := 54) dX7_copyFrom_53 rfl ?_
  refine j_aload_n (i := 0) (pc' := 55) dX7_copyFrom_54 rfl rfl 0 rfl ?_
  obtain ⟨v15, e15, H⟩ := bs H
  refine j_getR (pc' := 58) dX7_copyFrom_55 rfl fl_X7_22 e15 (fun r15 => ?_)
  obtain ⟨v16, e16, H⟩ := bs H
  refine j_alen (kd := 0) (pc' := 59) dX7_copyFrom_58 rfl e16 (fun r16 => ?_)
  obtain ⟨h17, e17, H⟩ := bs H
  refine j_cpy (pc' := 62) dX7_copyFrom_59 rfl ml_X7_45 sy_1 sy_2 sy_3 (by decide) (Nat.le_of_ble_eq_true rfl) e17 ?_
  refine j_aload_n (i := 1) (pc' := 63) dX7_copyFrom_62 rfl rfl 1 rfl ?_
  obtain ⟨v18, e18, H⟩ := bs H
  refine j_getR (pc' := 66) dX7_copyFrom_63 rfl fl_X7_25 e18 (fun r18 => ?_)
  refine j_iconst (pc' := 67) dX7_copyFrom_66 rfl ?_
  refine j_aload_n (i := 0) (pc' := 68) dX7_copyFrom_67 rfl rfl 0 rfl ?_
  obtain ⟨v19, e19, H⟩ := bs H
  refine j_getR (pc' := 71) dX7_copyFrom_68 rfl fl_X7_25 e19 (fun r19 => ?_)
  refine j_iconst (pc' := 72) dX7_copyFrom_71 rfl ?_
  refine j_aload_n (i := 0) (pc' := 73) dX7_copyFrom_72 rfl rfl 0 rfl ?_
  obtain ⟨v20, e20, H⟩ := bs H
  refine j_getR (pc' := 76) dX7_copyFrom_73 rfl fl_X7_25 e20 (fun r20 => ?_)
  obtain ⟨v21, e21, H⟩ := bs H
  refine j_alen (kd := 0) (pc' := 77) dX7_copyFrom_76 rfl e21 (fun r21 => ?_)
  obtain ⟨h22, e22, H⟩ := bs H
  refine j_cpy (pc' := 80) dX7_copyFrom_77 rfl ml_X7_45 sy_1 sy_2 sy_3 (by decide) (Nat.le_of_ble_eq_true rfl) e22 ?_
  refine j_aload_n (i := 0) (pc' := 81) dX7_copyFrom_80 rfl rfl 0 rfl ?_
  obtain ⟨v23, e23, H⟩ := bs H
  refine j_getR (pc' := 84) dX7_copyFrom_81 rfl fl_X7_31 e23 (fun r23 => ?_)
  refine j_aload_n (i := 1) (pc' := 85) dX7_copyFrom_84 rfl rfl 1 rfl ?_
  obtain ⟨v24, e24, H⟩ := bs H
  refine j_getR (pc' := 88) dX7_copyFrom_85 rfl fl_X7_31 e24 (fun r24 => ?_)
  obtain ⟨u25, e25, H⟩ := bs H
  obtain ⟨h26, e26, H⟩ := bs H
  refine j_cVv (y := yX6_copyFrom) (dY := 1) (vs := [vr v24]) (st := []) (q := v23) (pc' := 91) dX7_copyFrom_88 rfl ymX6_copyFrom yvX6_copyFrom ml_X7_51 (by decide) rfl (Nat.le_of_ble_eq_true rfl) (Nat.le_of_ble_eq_true rfl) e25 (tX6_copyFrom v23 v24 h22 e26) (fun z26 => ?_)
  obtain rfl := Option.some.inj H
  exact j_vret dX7_copyFrom_91 ⟨rfl, rfl⟩
-- X1_remember
noncomputable def fX1_remember_63 (x0 : Nat) (s0 : Int) (s1 : Nat) (h : Hp) : Option (Hp) :=
  (putV h 0 s1 1 (vi s0)).bind fun h1 => (getI h1 0 x0 0).bind fun v2 => (c32 (v2 + 1)).bind fun _ => (putV h1 0 x0 0 (vi (min (v2 + 1) 20))).bind fun h4 => some h4
theorem tX1_remember_63 {L : Nat} {xs : Nat → Int32} {l : Launch} {res : Hp} (x0 : Nat) (s0 : Int) (s1 : Nat) (h : Hp) (rs0 : R32 s0) (H : fX1_remember_63 x0 s0 s1 h = some res) : J L xs l RX1 cX1_remember 2 false 3 (QV res) 0 0 63 [(0, vr x0)] [vi s0, vr s1] h := by
  unfold fX1_remember_63 at H
  obtain ⟨h1, e1, H⟩ := bs H
  refine j_putV (pc' := 66) dX1_remember_63 rfl fp_X1_15 tI rs0 e1 ?_
  refine j_aload_n (i := 0) (pc' := 67) dX1_remember_66 rfl rfl 0 rfl ?_
  refine j_aload_n (i := 0) (pc' := 68) dX1_remember_67 rfl rfl 0 rfl ?_
  obtain ⟨v2, e2, H⟩ := bs H
  refine j_getI (pc' := 71) dX1_remember_68 rfl fl_X1_9 e2 (fun r2 => ?_)
  refine j_iconst (pc' := 72) dX1_remember_71 rfl ?_
  refine j_iadd (pc' := 73) dX1_remember_72 rfl ?_
  refine j_bipush (pc' := 75) dX1_remember_73 rfl (by decide +kernel) ?_
  obtain ⟨u3, e3, H⟩ := bs H
  have r3 := c32_R e3
  refine j_mmin (pc' := 78) dX1_remember_75 rfl ml_X1_29 (by decide) (Nat.le_of_ble_eq_true rfl) r3 ⟨by decide, by decide⟩ ?_
  obtain ⟨h4, e4, H⟩ := bs H
  refine j_putV (pc' := 81) dX1_remember_78 rfl fp_X1_9 tI (R32_min r3 ⟨by decide, by decide⟩) e4 ?_
  obtain rfl := Option.some.inj H
  exact j_vret dX1_remember_81 ⟨rfl, rfl⟩
noncomputable def fX1_remember_28 (x0 : Nat) (x1 : Nat) (h : Hp) : Option (Hp) :=
  (getR h 0 x0 2).bind fun v1 => (getI h 0 x0 1).bind fun v2 => (rld h 6 v1 v2).bind fun v3 => (cob h 6 v3).bind fun _ => (fX7_copyFrom v3 x1 h).bind fun h5 => (getI h5 0 x0 1).bind fun v6 => (c32 (v6 + 1)).bind fun _ => if 20 ≤ (v6 + 1) then (fX1_remember_63 x0 0 x0 h5) else ((getI h5 0 x0 1).bind fun v9 => (c32 (v9 + 1)).bind fun _ => fX1_remember_63 x0 (v9 + 1) x0 h5)
theorem tX1_remember_28 {L : Nat} {xs : Nat → Int32} {l : Launch} {res : Hp} (x0 : Nat) (x1 : Nat) (h : Hp)  (H : fX1_remember_28 x0 x1 h = some res) : J L xs l RX1 cX1_remember 2 false 3 (QV res) 0 0 28 [(0, vr x0), (1, vr x1)] [] h := by
  unfold fX1_remember_28 at H
  refine j_aload_n (i := 0) (pc' := 29) dX1_remember_28 rfl rfl 0 rfl ?_
  obtain ⟨v1, e1, H⟩ := bs H
  refine j_getR (pc' := 32) dX1_remember_29 rfl fl_X1_20 e1 (fun r1 => ?_)
  refine j_aload_n (i := 0) (pc' := 33) dX1_remember_32 rfl rfl 0 rfl ?_
  obtain ⟨v2, e2, H⟩ := bs H
  refine j_getI (pc' := 36) dX1_remember_33 rfl fl_X1_15 e2 (fun r2 => ?_)
  obtain ⟨v3, e3, H⟩ := bs H
  refine j_rld (pc' := 37) dX1_remember_36 rfl e3 (fun r3 => ?_)
  refine j_aload_n (i := 1) (pc' := 38) dX1_remember_37 rfl rfl 1 rfl ?_
  obtain ⟨u4, e4, H⟩ := bs H
  obtain ⟨h5, e5, H⟩ := bs H
  refine j_cVv (y := yX7_copyFrom) (dY := 2) (vs := [vr x1]) (st := []) (q := v3) (pc' := 41) dX1_remember_38 rfl ymX7_copyFrom yvX7_copyFrom ml_X1_25 (by decide) rfl (Nat.le_of_ble_eq_true rfl) (Nat.le_of_ble_eq_true rfl) e4 (tX7_copyFrom v3 x1 h e5) (fun z5 => ?_)
  refine j_aload_n (i := 0) (pc' := 42) dX1_remember_41 rfl rfl 0 rfl ?_
  refine j_aload_n (i := 0) (pc' := 43) dX1_remember_42 rfl rfl 0 rfl ?_
  obtain ⟨v6, e6, H⟩ := bs H
  refine j_getI (pc' := 46) dX1_remember_43 rfl fl_X1_15 e6 (fun r6 => ?_)
  refine j_iconst (pc' := 47) dX1_remember_46 rfl ?_
  refine j_iadd (pc' := 48) dX1_remember_47 rfl ?_
  refine j_bipush (pc' := 50) dX1_remember_48 rfl (by decide +kernel) ?_
  obtain ⟨u7, e7, H⟩ := bs H
  have r7 := c32_R e7
  refine j_icmp_ge (tgt := 62) (pc' := 53) dX1_remember_50 (by decide) rfl r7 ⟨by decide, by decide⟩ (fun c8 => ?_) (fun c8 => ?_)
  · rw [if_pos c8] at H
    refine j_iconst (pc' := 63) dX1_remember_62 rfl ?_
    refine j_sub (lv' := [(0, vr x0)]) [0] rfl ?_
    exact tX1_remember_63   x0 0 x0 h5 ⟨by decide, by decide⟩ H
  · rw [if_neg c8] at H
    refine j_aload_n (i := 0) (pc' := 54) dX1_remember_53 rfl rfl 0 rfl ?_
    obtain ⟨v9, e9, H⟩ := bs H
    refine j_getI (pc' := 57) dX1_remember_54 rfl fl_X1_15 e9 (fun r9 => ?_)
    refine j_iconst (pc' := 58) dX1_remember_57 rfl ?_
    refine j_iadd (pc' := 59) dX1_remember_58 rfl ?_
    refine j_goto (tgt := 63) dX1_remember_59 (by decide) ?_
    obtain ⟨u10, e10, H⟩ := bs H
    have r10 := c32_R e10
    refine j_sub (lv' := [(0, vr x0)]) [0] rfl ?_
    exact tX1_remember_63   x0 (v9 + 1) x0 h5 r10 H
noncomputable def fX1_remember (a0 : Nat) (a1 : Nat) (h : Hp) : Option (Hp) :=
  (getR h 0 a0 2).bind fun v1 => (getI h 0 a0 1).bind fun v2 => (rld h 6 v1 v2).bind fun v3 => if v3 = 0 then ((getR h 0 a0 2).bind fun v5 => (getI h 0 a0 1).bind fun v6 => (crf h a0).bind fun _ => (crf h a1).bind fun _ => (newO h (obj 6 [vi 0, vr 0, vr 0, vr 0, vr 0, vr 0])).bind fun p9 => (cob p9.2 6 p9.1).bind fun _ => (crf p9.2 p9.1).bind fun _ => (crf p9.2 v5).bind fun _ => (crf p9.2 a0).bind fun _ => (crf p9.2 a1).bind fun _ => (fX7_init p9.1 p9.2).bind fun h15 => (rst h15 6 v5 v6 p9.1).bind fun h16 => fX1_remember_28 a0 a1 h16) else (fX1_remember_28 a0 a1 h)
theorem tX1_remember {L : Nat} {xs : Nat → Int32} {l : Launch} {res : Hp} (a0 : Nat) (a1 : Nat) (h : Hp)  (H : fX1_remember a0 a1 h = some res) : J L xs l RX1 cX1_remember 2 false 3 (QV res) 8 515 0 (alv 0 [vr a0, vr a1]) [] h := by
  unfold fX1_remember at H
  show J L xs l RX1 cX1_remember 2 false 3 (QV res) 8 515 0 [(0, vr a0), (1, vr a1)] [] h
  refine j_aload_n (i := 0) (pc' := 1) dX1_remember_0 rfl rfl 0 rfl ?_
  obtain ⟨v1, e1, H⟩ := bs H
  refine j_getR (pc' := 4) dX1_remember_1 rfl fl_X1_20 e1 (fun r1 => ?_)
  refine j_aload_n (i := 0) (pc' := 5) dX1_remember_4 rfl rfl 0 rfl ?_
  obtain ⟨v2, e2, H⟩ := bs H
  refine j_getI (pc' := 8) dX1_remember_5 rfl fl_X1_15 e2 (fun r2 => ?_)
  obtain ⟨v3, e3, H⟩ := bs H
  refine j_rld (pc' := 9) dX1_remember_8 rfl e3 (fun r3 => ?_)
  refine j_ifnonnull (tgt := 28) (pc' := 12) dX1_remember_9 (by decide) rfl (fun c4 => ?_) (fun c4 => ?_)
  · rw [if_neg c4] at H
    refine j_rc (rc2 := 0) (rs2 := 0) (by omega) (by omega) ?_
    exact tX1_remember_28   a0 a1 h  H
  · rw [if_pos c4] at H
    refine j_aload_n (i := 0) (pc' := 13) dX1_remember_12 rfl rfl 0 rfl ?_
    obtain ⟨v5, e5, H⟩ := bs H
    refine j_getR (pc' := 16) dX1_remember_13 rfl fl_X1_20 e5 (fun r5 => ?_)
    refine j_aload_n (i := 0) (pc' := 17) dX1_remember_16 rfl rfl 0 rfl ?_
    obtain ⟨v6, e6, H⟩ := bs H
    refine j_getI (pc' := 20) dX1_remember_17 rfl fl_X1_15 e6 (fun r6 => ?_)
    obtain ⟨u7, e7, H⟩ := bs H
    obtain ⟨u8, e8, H⟩ := bs H
    obtain ⟨p9, e9, H⟩ := bs H
    refine j_newp (rc := 7) (rs := 509) (pc' := 23) dX1_remember_20 rfl nl_X1_18 ⟨trivial, r5, trivial⟩ ⟨(crf_R e7), (crf_R e8), trivial⟩ e9 ?_
    refine j_dup (pc' := 24) dX1_remember_23 rfl rfl ?_
    obtain ⟨u10, e10, H⟩ := bs H
    obtain ⟨u11, e11, H⟩ := bs H
    obtain ⟨u12, e12, H⟩ := bs H
    obtain ⟨u13, e13, H⟩ := bs H
    obtain ⟨u14, e14, H⟩ := bs H
    obtain ⟨h15, e15, H⟩ := bs H
    refine j_aN (y := yX7_init) (dY := 2) (vs := []) (st := [vr p9.1, vi v6, vr v5]) (q := p9.1) (mc := 7) (ms := 509) (rc := 0) (rs := 0) (pc' := 27) dX1_remember_24 rfl ymX7_init rfl yiX7_init mn_X1_24 (by decide) rfl (Nat.le_of_ble_eq_true rfl) (Nat.le_of_ble_eq_true rfl) e10 ⟨(crf_R e11), trivial, (crf_R e12), trivial⟩ ⟨(crf_R e13), (crf_R e14), trivial⟩ (tX7_init p9.1 p9.2 e15) ?_
    obtain ⟨h16, e16, H⟩ := bs H
    refine j_rst ⟨_, rfl⟩ (pc' := 28) dX1_remember_27 rfl e16 ?_
    exact tX1_remember_28   a0 a1 h16  H
-- X1_bringBack
noncomputable def fX1_bringBack_35  (h : Hp) : Option (Hp) :=
  some h
theorem tX1_bringBack_35 {L : Nat} {xs : Nat → Int32} {l : Launch} {res : Hp}  (h : Hp)  (H : fX1_bringBack_35  h = some res) : J L xs l RX1 cX1_bringBack 3 false 3 (QV res) 0 0 35 [] [] h := by
  unfold fX1_bringBack_35 at H
  obtain rfl := Option.some.inj H
  exact j_vret dX1_bringBack_35 ⟨rfl, rfl⟩
noncomputable def fX1_bringBack_18 (x0 : Nat) (x1 : Nat) (s0 : Int) (h : Hp) : Option (Hp) :=
  (getI h 0 x0 0).bind fun v1 => if v1 = 0 then (fX1_bringBack_35 h) else ((getR h 0 x0 2).bind fun v3 => (rld h 6 v3 s0).bind fun v4 => if v4 = 0 then (fX1_bringBack_35 h) else ((getR h 0 x0 2).bind fun v6 => (rld h 6 v6 s0).bind fun v7 => (cob h 6 x1).bind fun _ => (fX7_copyFrom x1 v7 h).bind fun h9 => (putV h9 0 x0 1 (vi s0)).bind fun h10 => (getI h10 0 x0 0).bind fun v11 => (c32 (v11 - 1)).bind fun _ => (putV h10 0 x0 0 (vi (v11 - 1))).bind fun h13 => some h13))
theorem tX1_bringBack_18 {L : Nat} {xs : Nat → Int32} {l : Launch} {res : Hp} (x0 : Nat) (x1 : Nat) (s0 : Int) (h : Hp) (rs0 : R32 s0) (H : fX1_bringBack_18 x0 x1 s0 h = some res) : J L xs l RX1 cX1_bringBack 3 false 3 (QV res) 0 0 18 [(0, vr x0), (1, vr x1)] [vi s0] h := by
  unfold fX1_bringBack_18 at H
  refine j_istore_n (i := 2) (lv' := [(0, vr x0), (1, vr x1), (2, vi s0)]) (pc' := 19) dX1_bringBack_18 rfl rfl (by decide) [1, 2, 0] rfl ?_
  refine j_aload_n (i := 0) (pc' := 20) dX1_bringBack_19 rfl rfl 0 rfl ?_
  obtain ⟨v1, e1, H⟩ := bs H
  refine j_getI (pc' := 23) dX1_bringBack_20 rfl fl_X1_9 e1 (fun r1 => ?_)
  refine j_if_eq (tgt := 35) (pc' := 26) dX1_bringBack_23 (by decide) rfl r1 (fun c2 => ?_) (fun c2 => ?_)
  · rw [if_pos c2] at H
    refine j_sub (lv' := []) [] rfl ?_
    exact tX1_bringBack_35   h  H
  · rw [if_neg c2] at H
    refine j_aload_n (i := 0) (pc' := 27) dX1_bringBack_26 rfl rfl 0 rfl ?_
    obtain ⟨v3, e3, H⟩ := bs H
    refine j_getR (pc' := 30) dX1_bringBack_27 rfl fl_X1_20 e3 (fun r3 => ?_)
    refine j_iload_n (i := 2) (pc' := 31) dX1_bringBack_30 rfl rfl 2 rfl ?_
    obtain ⟨v4, e4, H⟩ := bs H
    refine j_rld (pc' := 32) dX1_bringBack_31 rfl e4 (fun r4 => ?_)
    refine j_ifnonnull (tgt := 36) (pc' := 35) dX1_bringBack_32 (by decide) rfl (fun c5 => ?_) (fun c5 => ?_)
    · rw [if_neg c5] at H
      refine j_aload_n (i := 1) (pc' := 37) dX1_bringBack_36 rfl rfl 1 rfl ?_
      refine j_aload_n (i := 0) (pc' := 38) dX1_bringBack_37 rfl rfl 0 rfl ?_
      obtain ⟨v6, e6, H⟩ := bs H
      refine j_getR (pc' := 41) dX1_bringBack_38 rfl fl_X1_20 e6 (fun r6 => ?_)
      refine j_iload_n (i := 2) (pc' := 42) dX1_bringBack_41 rfl rfl 2 rfl ?_
      obtain ⟨v7, e7, H⟩ := bs H
      refine j_rld (pc' := 43) dX1_bringBack_42 rfl e7 (fun r7 => ?_)
      obtain ⟨u8, e8, H⟩ := bs H
      obtain ⟨h9, e9, H⟩ := bs H
      refine j_cVv (y := yX7_copyFrom) (dY := 2) (vs := [vr v7]) (st := []) (q := x1) (pc' := 46) dX1_bringBack_43 rfl ymX7_copyFrom yvX7_copyFrom ml_X1_25 (by decide) rfl (Nat.le_of_ble_eq_true rfl) (Nat.le_of_ble_eq_true rfl) e8 (tX7_copyFrom x1 v7 h e9) (fun z9 => ?_)
      refine j_aload_n (i := 0) (pc' := 47) dX1_bringBack_46 rfl rfl 0 rfl ?_
      refine j_iload_n (i := 2) (pc' := 48) dX1_bringBack_47 rfl rfl 2 rfl ?_
      obtain ⟨h10, e10, H⟩ := bs H
      refine j_putV (pc' := 51) dX1_bringBack_48 rfl fp_X1_15 tI rs0 e10 ?_
      refine j_aload_n (i := 0) (pc' := 52) dX1_bringBack_51 rfl rfl 0 rfl ?_
      refine j_dup (pc' := 53) dX1_bringBack_52 rfl rfl ?_
      obtain ⟨v11, e11, H⟩ := bs H
      refine j_getI (pc' := 56) dX1_bringBack_53 rfl fl_X1_9 e11 (fun r11 => ?_)
      refine j_iconst (pc' := 57) dX1_bringBack_56 rfl ?_
      refine j_isub (pc' := 58) dX1_bringBack_57 rfl ?_
      obtain ⟨u12, e12, H⟩ := bs H
      have r12 := c32_R e12
      obtain ⟨h13, e13, H⟩ := bs H
      refine j_putV (pc' := 61) dX1_bringBack_58 rfl fp_X1_9 tI r12 e13 ?_
      obtain rfl := Option.some.inj H
      exact j_vret dX1_bringBack_61 ⟨rfl, rfl⟩
    · rw [if_pos c5] at H
      refine j_sub (lv' := []) [] rfl ?_
      exact tX1_bringBack_35   h  H
noncomputable def fX1_bringBack (a0 : Nat) (a1 : Nat) (h : Hp) : Option (Hp) :=
  (getI h 0 a0 1).bind fun v1 => if v1 ≤ 0 then (fX1_bringBack_18 a0 a1 19 h) else ((getI h 0 a0 1).bind fun v3 => (c32 (v3 - 1)).bind fun _ => fX1_bringBack_18 a0 a1 (v3 - 1) h)
theorem tX1_bringBack {L : Nat} {xs : Nat → Int32} {l : Launch} {res : Hp} (a0 : Nat) (a1 : Nat) (h : Hp)  (H : fX1_bringBack a0 a1 h = some res) : J L xs l RX1 cX1_bringBack 3 false 3 (QV res) 0 0 0 (alv 0 [vr a0, vr a1]) [] h := by
  unfold fX1_bringBack at H
  show J L xs l RX1 cX1_bringBack 3 false 3 (QV res) 0 0 0 [(0, vr a0), (1, vr a1)] [] h
  refine j_aload_n (i := 0) (pc' := 1) dX1_bringBack_0 rfl rfl 0 rfl ?_
  obtain ⟨v1, e1, H⟩ := bs H
  refine j_getI (pc' := 4) dX1_bringBack_1 rfl fl_X1_15 e1 (fun r1 => ?_)
  refine j_if_le (tgt := 16) (pc' := 7) dX1_bringBack_4 (by decide) rfl r1 (fun c2 => ?_) (fun c2 => ?_)
  · rw [if_pos c2] at H
    refine j_bipush (pc' := 18) dX1_bringBack_16 rfl (by decide +kernel) ?_
    exact tX1_bringBack_18   a0 a1 19 h ⟨by decide, by decide⟩ H
  · rw [if_neg c2] at H
    refine j_aload_n (i := 0) (pc' := 8) dX1_bringBack_7 rfl rfl 0 rfl ?_
    obtain ⟨v3, e3, H⟩ := bs H
    refine j_getI (pc' := 11) dX1_bringBack_8 rfl fl_X1_15 e3 (fun r3 => ?_)
    refine j_iconst (pc' := 12) dX1_bringBack_11 rfl ?_
    refine j_isub (pc' := 13) dX1_bringBack_12 rfl ?_
    refine j_goto (tgt := 18) dX1_bringBack_13 (by decide) ?_
    obtain ⟨u4, e4, H⟩ := bs H
    have r4 := c32_R e4
    exact tX1_bringBack_18   a0 a1 (v3 - 1) h r4 H
