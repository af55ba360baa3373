-- X2_brokenRounds
noncomputable def fX2_brokenRounds_65 (x1 : Int) (h : Hp) : Option (Int × Hp) :=
  some (x1, h)
theorem tX2_brokenRounds_65 {L : Nat} {xs : Nat → Int32} {l : Launch} {res : Int × Hp} (x1 : Int) (h : Hp) (rx1 : R32 x1) (H : fX2_brokenRounds_65 x1 h = some res) : J L xs l RX2 cX2_brokenRounds 5 false 3 (QI res) 0 0 65 [(1, vi x1)] [] h := by
  unfold fX2_brokenRounds_65 at H
  refine j_iload_n (i := 1) (pc' := 66) dX2_brokenRounds_65 rfl rfl 0 rfl ?_
  obtain rfl := Option.some.inj H
  exact j_iret dX2_brokenRounds_66 rx1 ⟨rfl, rfl⟩
noncomputable def fX2_brokenRounds_59 (k4 : Nat → Int → Int → Hp → Option (Int × Hp)) (x0 : Nat) (x1 : Int) (x2 : Int) (h : Hp) : Option (Int × Hp) :=
  (c32 (x2 + 1)).bind fun _ => k4 x0 x1 (x2 + 1) h
theorem tX2_brokenRounds_59 {L : Nat} {xs : Nat → Int32} {l : Launch} {res : Int × Hp} (k4 : Nat → Int → Int → Hp → Option (Int × Hp)) (hk4 : ∀ (x0 : Nat) (x1 : Int) (x2 : Int) (h : Hp), R32 x1 → R32 x2 → k4 x0 x1 x2 h = some res → J L xs l RX2 cX2_brokenRounds 5 false 3 (QI res) 0 0 4 [(0, vr x0), (1, vi x1), (2, vi x2)] [] h) (x0 : Nat) (x1 : Int) (x2 : Int) (h : Hp) (rx1 : R32 x1) (rx2 : R32 x2) (H : fX2_brokenRounds_59 k4 x0 x1 x2 h = some res) : J L xs l RX2 cX2_brokenRounds 5 false 3 (QI res) 0 0 59 [(0, vr x0), (1, vi x1), (2, vi x2)] [] h := by
  unfold fX2_brokenRounds_59 at H
  obtain ⟨u1, e1, H⟩ := bs H
  have r1 := c32_R e1
  refine j_iinc (k0 := 2) (lv' := [(0, vr x0), (1, vi x1), (2, vi (x2 + 1))]) (pc' := 62) dX2_brokenRounds_59 rfl rfl (by decide) [1, 2, 0] rfl ?_
  refine j_goto (tgt := 4) dX2_brokenRounds_62 (by decide) ?_
  exact hk4 x0 x1 (x2 + 1) h rx1 r1 H
noncomputable def fX2_brokenRounds_53 (k4 : Nat → Int → Int → Hp → Option (Int × Hp)) (k14 : Nat → Int → Int → Int → Hp → Option (Int × Hp)) (x0 : Nat) (x1 : Int) (x2 : Int) (x3 : Int) (h : Hp) : Option (Int × Hp) :=
  (c32 (x3 + 1)).bind fun _ => k14 x0 x1 x2 (x3 + 1) h
theorem tX2_brokenRounds_53 {L : Nat} {xs : Nat → Int32} {l : Launch} {res : Int × Hp} (k4 : Nat → Int → Int → Hp → Option (Int × Hp)) (k14 : Nat → Int → Int → Int → Hp → Option (Int × Hp)) (hk4 : ∀ (x0 : Nat) (x1 : Int) (x2 : Int) (h : Hp), R32 x1 → R32 x2 → k4 x0 x1 x2 h = some res → J L xs l RX2 cX2_brokenRounds 5 false 3 (QI res) 0 0 4 [(0, vr x0), (1, vi x1), (2, vi x2)] [] h) (hk14 : ∀ (x0 : Nat) (x1 : Int) (x2 : Int) (x3 : Int) (h : Hp), R32 x1 → R32 x2 → R32 x3 → k14 x0 x1 x2 x3 h = some res → J L xs l RX2 cX2_brokenRounds 5 false 3 (QI res) 0 0 14 [(0, vr x0), (1, vi x1), (2, vi x2), (3, vi x3)] [] h) (x0 : Nat) (x1 : Int) (x2 : Int) (x3 : Int) (h : Hp) (rx1 : R32 x1) (rx2 : R32 x2) (rx3 : R32 x3) (H : fX2_brokenRounds_53 k4 k14 x0 x1 x2 x3 h = some res) : J L xs l RX2 cX2_brokenRounds 5 false 3 (QI res) 0 0 53 [(0, vr x0), (1, vi x1), (2, vi x2), (3, vi x3)] [] h := by
  unfold fX2_brokenRounds_53 at H
  obtain ⟨u1, e1, H⟩ := bs H
  have r1 := c32_R e1
  refine j_iinc (k0 := 3) (lv' := [(0, vr x0), (1, vi x1), (2, vi x2), (3, vi (x3 + 1))]) (pc' := 56) dX2_brokenRounds_53 rfl rfl (by decide) [1, 2, 3, 0] rfl ?_
  refine j_goto (tgt := 14) dX2_brokenRounds_56 (by decide) ?_
  exact hk14 x0 x1 x2 (x3 + 1) h rx1 rx2 r1 H
noncomputable def fX2_brokenRounds_45 (k4 : Nat → Int → Int → Hp → Option (Int × Hp)) (k14 : Nat → Int → Int → Int → Hp → Option (Int × Hp)) (k22 : Nat → Int → Int → Int → Int → Hp → Option (Int × Hp)) (x0 : Nat) (x2 : Int) (x3 : Int) (x4 : Int) (s0 : Int) (s1 : Int) (h : Hp) : Option (Int × Hp) :=
  (c32 (s1 + s0)).bind fun _ => (c32 (x4 + 1)).bind fun _ => k22 x0 (s1 + s0) x2 x3 (x4 + 1) h
theorem tX2_brokenRounds_45 {L : Nat} {xs : Nat → Int32} {l : Launch} {res : Int × Hp} (k4 : Nat → Int → Int → Hp → Option (Int × Hp)) (k14 : Nat → Int → Int → Int → Hp → Option (Int × Hp)) (k22 : Nat → Int → Int → Int → Int → Hp → Option (Int × Hp)) (hk4 : ∀ (x0 : Nat) (x1 : Int) (x2 : Int) (h : Hp), R32 x1 → R32 x2 → k4 x0 x1 x2 h = some res → J L xs l RX2 cX2_brokenRounds 5 false 3 (QI res) 0 0 4 [(0, vr x0), (1, vi x1), (2, vi x2)] [] h) (hk14 : ∀ (x0 : Nat) (x1 : Int) (x2 : Int) (x3 : Int) (h : Hp), R32 x1 → R32 x2 → R32 x3 → k14 x0 x1 x2 x3 h = some res → J L xs l RX2 cX2_brokenRounds 5 false 3 (QI res) 0 0 14 [(0, vr x0), (1, vi x1), (2, vi x2), (3, vi x3)] [] h) (hk22 : ∀ (x0 : Nat) (x1 : Int) (x2 : Int) (x3 : Int) (x4 : Int) (h : Hp), R32 x1 → R32 x2 → R32 x3 → R32 x4 → k22 x0 x1 x2 x3 x4 h = some res → J L xs l RX2 cX2_brokenRounds 5 false 3 (QI res) 0 0 22 [(0, vr x0), (1, vi x1), (2, vi x2), (3, vi x3), (4, vi x4)] [] h) (x0 : Nat) (x2 : Int) (x3 : Int) (x4 : Int) (s0 : Int) (s1 : Int) (h : Hp) (rx2 : R32 x2) (rx3 : R32 x3) (rx4 : R32 x4) (rs0 : R32 s0) (rs1 : R32 s1) (H : fX2_brokenRounds_45 k4 k14 k22 x0 x2 x3 x4 s0 s1 h = some res) : J L xs l RX2 cX2_brokenRounds 5 false 3 (QI res) 0 0 45 [(0, vr x0), (2, vi x2), (3, vi x3), (4, vi x4)] [vi s0, vi s1] h := by
  unfold fX2_brokenRounds_45 at H
  refine j_iadd (pc' := 46) dX2_brokenRounds_45 rfl ?_
  obtain ⟨u1, e1, H⟩ := bs H
  have r1 := c32_R e1
  refine j_istore_n (i := 1) (lv' := [(0, vr x0), (1, vi (s1 + s0)), (2, vi x2), (3, vi x3), (4, vi x4)]) (pc' := 47) dX2_brokenRounds_46 rfl rfl (by decide) [1, 0, 2, 3, 4] rfl ?_
  obtain ⟨u2, e2, H⟩ := bs H
  have r2 := c32_R e2
  refine j_iinc (k0 := 4) (lv' := [(0, vr x0), (1, vi (s1 + s0)), (2, vi x2), (3, vi x3), (4, vi (x4 + 1))]) (pc' := 50) dX2_brokenRounds_47 rfl rfl (by decide) [1, 2, 3, 4, 0] rfl ?_
  refine j_goto (tgt := 22) dX2_brokenRounds_50 (by decide) ?_
  exact hk22 x0 (s1 + s0) x2 x3 (x4 + 1) h r1 rx2 rx3 r2 H
noncomputable def fX2_brokenRounds_22 (k4 : Nat → Int → Int → Hp → Option (Int × Hp)) (k14 : Nat → Int → Int → Int → Hp → Option (Int × Hp)) : Nat → Nat → Int → Int → Int → Int → Hp → Option (Int × Hp)
  | 0, _, _, _, _, _, _ => none
  | n + 1, x0, x1, x2, x3, x4, h => if x3 ≤ x4 then (fX2_brokenRounds_53 k4 k14 x0 x1 x2 x3 h) else ((fX2_isBroken x0 x2 x3 x4 h).bind fun p2 => if p2.1 = 0 then (fX2_brokenRounds_45 k4 k14 (fX2_brokenRounds_22 k4 k14 n) x0 x2 x3 x4 0 x1 p2.2) else (fX2_brokenRounds_45 k4 k14 (fX2_brokenRounds_22 k4 k14 n) x0 x2 x3 x4 1 x1 p2.2))
theorem tX2_brokenRounds_22 {L : Nat} {xs : Nat → Int32} {l : Launch} {res : Int × Hp} (k4 : Nat → Int → Int → Hp → Option (Int × Hp)) (k14 : Nat → Int → Int → Int → Hp → Option (Int × Hp)) (hk4 : ∀ (x0 : Nat) (x1 : Int) (x2 : Int) (h : Hp), R32 x1 → R32 x2 → k4 x0 x1 x2 h = some res → J L xs l RX2 cX2_brokenRounds 5 false 3 (QI res) 0 0 4 [(0, vr x0), (1, vi x1), (2, vi x2)] [] h) (hk14 : ∀ (x0 : Nat) (x1 : Int) (x2 : Int) (x3 : Int) (h : Hp), R32 x1 → R32 x2 → R32 x3 → k14 x0 x1 x2 x3 h = some res → J L xs l RX2 cX2_brokenRounds 5 false 3 (QI res) 0 0 14 [(0, vr x0), (1, vi x1), (2, vi x2), (3, vi x3)] [] h) : ∀ (n : Nat) (x0 : Nat) (x1 : Int) (x2 : Int) (x3 : Int) (x4 : Int) (h : Hp), R32 x1 → R32 x2 → R32 x3 → R32 x4 → fX2_brokenRounds_22 k4 k14 n x0 x1 x2 x3 x4 h = some res → J L xs l RX2 cX2_brokenRounds 5 false 3 (QI res) 0 0 22 [(0, vr x0), (1, vi x1), (2, vi x2), (3, vi x3), (4, vi x4)] [] h := by
  intro n
  induction n with
  | zero => intro x0 x1 x2 x3 x4 h rx1 rx2 rx3 rx4 H; cases H
  | succ n ih =>
    intro x0 x1 x2 x3 x4 h rx1 rx2 rx3 rx4 H
    rw [fX2_brokenRounds_22] at H
    refine j_iload (pc' := 24) dX2_brokenRounds_22 rfl 4 rfl ?_
    refine j_iload_n (i := 3) (pc' := 25) dX2_brokenRounds_24 rfl rfl 3 rfl ?_
    refine j_icmp_ge (tgt := 53) (pc' := 28) dX2_brokenRounds_25 (by decide) rfl rx4 rx3 (fun c1 => ?_) (fun c1 => ?_)
    · rw [if_pos c1] at H
      refine j_sub (lv' := [(0, vr x0), (1, vi x1), (2, vi x2), (3, vi x3)]) [0, 1, 2, 3] rfl ?_
      exact tX2_brokenRounds_53 _ _ hk4 hk14 x0 x1 x2 x3 h rx1 rx2 rx3 H
    · rw [if_neg c1] at H
      refine j_iload_n (i := 1) (pc' := 29) dX2_brokenRounds_28 rfl rfl 1 rfl ?_
      refine j_aload_n (i := 0) (pc' := 30) dX2_brokenRounds_29 rfl rfl 0 rfl ?_
      refine j_iload_n (i := 2) (pc' := 31) dX2_brokenRounds_30 rfl rfl 2 rfl ?_
      refine j_iload_n (i := 3) (pc' := 32) dX2_brokenRounds_31 rfl rfl 3 rfl ?_
      refine j_iload (pc' := 34) dX2_brokenRounds_32 rfl 4 rfl ?_
      obtain ⟨p2, e2, H⟩ := bs H
      refine j_cSb (y := yX2_isBroken) (dY := 2) (vs := [vr x0, vi x2, vi x3, vi x4]) (st := [vi x1]) (pc' := 37) dX2_brokenRounds_34 rfl ymX2_isBroken ysX2_isBroken ml_X2_80 (by decide) rfl (Nat.le_of_ble_eq_true rfl) (Nat.le_of_ble_eq_true rfl) (tX2_isBroken x0 x2 x3 x4 h rx2 rx3 rx4 e2) (fun r2 b2 z2 => ?_)
      refine j_if_eq (tgt := 44) (pc' := 40) dX2_brokenRounds_37 (by decide) rfl r2 (fun c3 => ?_) (fun c3 => ?_)
      · rw [if_pos c3] at H
        refine j_iconst (pc' := 45) dX2_brokenRounds_44 rfl ?_
        refine j_sub (lv' := [(0, vr x0), (2, vi x2), (3, vi x3), (4, vi x4)]) [0, 2, 3, 4] rfl ?_
        exact tX2_brokenRounds_45 _ _ _ hk4 hk14 ih x0 x2 x3 x4 0 x1 p2.2 rx2 rx3 rx4 ⟨by decide, by decide⟩ rx1 H
      · rw [if_neg c3] at H
        refine j_iconst (pc' := 41) dX2_brokenRounds_40 rfl ?_
        refine j_goto (tgt := 45) dX2_brokenRounds_41 (by decide) ?_
        refine j_sub (lv' := [(0, vr x0), (2, vi x2), (3, vi x3), (4, vi x4)]) [0, 2, 3, 4] rfl ?_
        exact tX2_brokenRounds_45 _ _ _ hk4 hk14 ih x0 x2 x3 x4 1 x1 p2.2 rx2 rx3 rx4 ⟨by decide, by decide⟩ rx1 H
noncomputable def fX2_brokenRounds_14 (k4 : Nat → Int → Int → Hp → Option (Int × Hp)) : Nat → Nat → Int → Int → Int → Hp → Option (Int × Hp)
  | 0, _, _, _, _, _ => none
  | n + 1, x0, x1, x2, x3, h => if x2 ≤ x3 then (fX2_brokenRounds_59 k4 x0 x1 x2 h) else (fX2_brokenRounds_22 k4 (fX2_brokenRounds_14 k4 n) FU x0 x1 x2 x3 0 h)
theorem tX2_brokenRounds_14 {L : Nat} {xs : Nat → Int32} {l : Launch} {res : Int × Hp} (k4 : Nat → Int → Int → Hp → Option (Int × Hp)) (hk4 : ∀ (x0 : Nat) (x1 : Int) (x2 : Int) (h : Hp), R32 x1 → R32 x2 → k4 x0 x1 x2 h = some res → J L xs l RX2 cX2_brokenRounds 5 false 3 (QI res) 0 0 4 [(0, vr x0), (1, vi x1), (2, vi x2)] [] h) : ∀ (n : Nat) (x0 : Nat) (x1 : Int) (x2 : Int) (x3 : Int) (h : Hp), R32 x1 → R32 x2 → R32 x3 → fX2_brokenRounds_14 k4 n x0 x1 x2 x3 h = some res → J L xs l RX2 cX2_brokenRounds 5 false 3 (QI res) 0 0 14 [(0, vr x0), (1, vi x1), (2, vi x2), (3, vi x3)] [] h := by
  intro n
  induction n with
  | zero => intro x0 x1 x2 x3 h rx1 rx2 rx3 H; cases H
  | succ n ih =>
    intro x0 x1 x2 x3 h rx1 rx2 rx3 H
    rw [fX2_brokenRounds_14] at H
    refine j_iload_n (i := 3) (pc' := 15) dX2_brokenRounds_14 rfl rfl 3 rfl ?_
    refine j_iload_n (i := 2) (pc' := 16) dX2_brokenRounds_15 rfl rfl 2 rfl ?_
    refine j_icmp_ge (tgt := 59) (pc' := 19) dX2_brokenRounds_16 (by decide) rfl rx3 rx2 (fun c1 => ?_) (fun c1 => ?_)
    · rw [if_pos c1] at H
      refine j_sub (lv' := [(0, vr x0), (1, vi x1), (2, vi x2)]) [0, 1, 2] rfl ?_
      exact tX2_brokenRounds_59 _ hk4 x0 x1 x2 h rx1 rx2 H
    · rw [if_neg c1] at H
      refine j_iconst (pc' := 20) dX2_brokenRounds_19 rfl ?_
      refine j_istore (lv' := [(0, vr x0), (1, vi x1), (2, vi x2), (3, vi x3), (4, vi 0)]) (pc' := 22) dX2_brokenRounds_20 rfl (by decide) [1, 2, 3, 4, 0] rfl ?_
      exact tX2_brokenRounds_22 _ _ hk4 ih FU x0 x1 x2 x3 0 h rx1 rx2 rx3 ⟨by decide, by decide⟩ H
noncomputable def fX2_brokenRounds_4 : Nat → Nat → Int → Int → Hp → Option (Int × Hp)
  | 0, _, _, _, _ => none
  | n + 1, x0, x1, x2, h => (getI h 6 x0 0).bind fun v1 => if v1 ≤ x2 then (fX2_brokenRounds_65 x1 h) else (fX2_brokenRounds_14 (fX2_brokenRounds_4 n) FU x0 x1 x2 1 h)
theorem tX2_brokenRounds_4 {L : Nat} {xs : Nat → Int32} {l : Launch} {res : Int × Hp} : ∀ (n : Nat) (x0 : Nat) (x1 : Int) (x2 : Int) (h : Hp), R32 x1 → R32 x2 → fX2_brokenRounds_4 n x0 x1 x2 h = some res → J L xs l RX2 cX2_brokenRounds 5 false 3 (QI res) 0 0 4 [(0, vr x0), (1, vi x1), (2, vi x2)] [] h := by
  intro n
  induction n with
  | zero => intro x0 x1 x2 h rx1 rx2 H; cases H
  | succ n ih =>
    intro x0 x1 x2 h rx1 rx2 H
    rw [fX2_brokenRounds_4] at H
    refine j_iload_n (i := 2) (pc' := 5) dX2_brokenRounds_4 rfl rfl 2 rfl ?_
    refine j_aload_n (i := 0) (pc' := 6) dX2_brokenRounds_5 rfl rfl 0 rfl ?_
    obtain ⟨v1, e1, H⟩ := bs H
    refine j_getI (pc' := 9) dX2_brokenRounds_6 rfl fl_X2_26 e1 (fun r1 => ?_)
    refine j_icmp_ge (tgt := 65) (pc' := 12) dX2_brokenRounds_9 (by decide) rfl rx2 r1 (fun c2 => ?_) (fun c2 => ?_)
    · rw [if_pos c2] at H
      refine j_sub (lv' := [(1, vi x1)]) [1] rfl ?_
      exact tX2_brokenRounds_65   x1 h rx1 H
    · rw [if_neg c2] at H
      refine j_iconst (pc' := 13) dX2_brokenRounds_12 rfl ?_
      refine j_istore_n (i := 3) (lv' := [(0, vr x0), (1, vi x1), (2, vi x2), (3, vi 1)]) (pc' := 14) dX2_brokenRounds_13 rfl rfl (by decide) [1, 2, 3, 0] rfl ?_
      exact tX2_brokenRounds_14 _ ih FU x0 x1 x2 1 h rx1 rx2 ⟨by decide, by decide⟩ H
noncomputable def fX2_brokenRounds (a0 : Nat) (h : Hp) : Option (Int × Hp) :=
  fX2_brokenRounds_4 FU a0 0 2 h
theorem tX2_brokenRounds {L : Nat} {xs : Nat → Int32} {l : Launch} {res : Int × Hp} (a0 : Nat) (h : Hp)  (H : fX2_brokenRounds a0 h = some res) : J L xs l RX2 cX2_brokenRounds 5 false 3 (QI res) 0 0 0 (alv 0 [vr a0]) [] h := by
  unfold fX2_brokenRounds at H
  show J L xs l RX2 cX2_brokenRounds 5 false 3 (QI res) 0 0 0 [(0, vr a0)] [] h
  refine j_iconst (pc' := 1) dX2_brokenRounds_0 rfl ?_
  refine j_istore_n (i := 1) (lv' := [(0, vr a0), (1, vi 0)]) (pc' := 2) dX2_brokenRounds_1 rfl rfl (by decide) [1, 0] rfl ?_
  refine j_iconst (pc' := 3) dX2_brokenRounds_2 rfl ?_
  refine j_istore_n (i := 2) (lv' := [(0, vr a0), (1, vi 0), (2, vi 2)]) (pc' := 4) dX2_brokenRounds_3 rfl rfl (by decide) [1, 2, 0] rfl ?_
  exact tX2_brokenRounds_4   FU a0 0 2 h ⟨by decide, by decide⟩ ⟨by decide, by decide⟩ H
-- X3_init
noncomputable def fX3_init (a0 : Nat) (h : Hp) : Option (Hp) :=
  (cob h 2 a0).bind fun _ => (crf h a0).bind fun _ => (newO h (arr 0 12 (fun _ => 0))).bind fun p3 => (crf p3.2 p3.1).bind fun _ => (putV p3.2 2 a0 0 (vr p3.1)).bind fun h5 => (crf h5 a0).bind fun _ => (newO h5 (arr 1 144 (fun _ => 0))).bind fun p7 => (crf p7.2 p7.1).bind fun _ => (putV p7.2 2 a0 1 (vr p7.1)).bind fun h9 => (crf h9 a0).bind fun _ => (newO h9 (obj 5 [vi 0, vi 0, vr 0, vr 0])).bind fun p11 => (cob p11.2 5 p11.1).bind fun _ => (crf p11.2 p11.1).bind fun _ => (crf p11.2 a0).bind fun _ => (fX6_init p11.1 p11.2).bind fun h15 => (crf h15 p11.1).bind fun _ => (putV h15 2 a0 2 (vr p11.1)).bind fun h17 => (crf h17 a0).bind fun _ => (newO h17 (obj 6 [vi 0, vr 0, vr 0, vr 0, vr 0, vr 0])).bind fun p19 => (cob p19.2 6 p19.1).bind fun _ => (crf p19.2 p19.1).bind fun _ => (crf p19.2 a0).bind fun _ => (fX7_init p19.1 p19.2).bind fun h23 => (crf h23 p19.1).bind fun _ => (putV h23 2 a0 3 (vr p19.1)).bind fun h25 => some h25
theorem tX3_init {L : Nat} {xs : Nat → Int32} {l : Launch} {res : Hp} (a0 : Nat) (h : Hp)  (H : fX3_init a0 h = some res) : J L xs l RX3 cX3_init 1 true 3 (QV res) 13 700 0 (alv 0 [vr a0]) [] h := by
  unfold fX3_init at H
  show J L xs l RX3 cX3_init 1 true 3 (QV res) 13 700 0 [(0, vr a0)] [] h
  refine j_aload_n (i := 0) (pc' := 1) dX3_init_0 rfl rfl 0 rfl ?_
  obtain ⟨u1, e1, H⟩ := bs H
  refine j_objInit (pc' := 4) dX3_init_1 rfl ml_X3_3 oi_1 oi_2 (by decide) e1 (Nat.le_of_ble_eq_true rfl) ?_
  refine j_aload_n (i := 0) (pc' := 5) dX3_init_4 rfl rfl 0 rfl ?_
  refine j_bipush (pc' := 7) dX3_init_5 rfl (by decide +kernel) ?_
  obtain ⟨u2, e2, H⟩ := bs H
  obtain ⟨p3, e3, H⟩ := bs H
  refine j_newIp (N := 12) (rc := 12) (rs := 688) (pc' := 9) rfl (by decide) dX3_init_7 rfl ak_int ⟨(crf_R e2), trivial⟩ ⟨(crf_R e2), trivial⟩ e3 ?_
  obtain ⟨u4, e4, H⟩ := bs H
  obtain ⟨h5, e5, H⟩ := bs H
  refine j_putF (pc' := 12) dX3_init_9 rfl rfl fp_X3_9 tR (crf_R e4) e5 ?_
  refine j_aload_n (i := 0) (pc' := 13) dX3_init_12 rfl rfl 0 rfl ?_
  refine j_sipush (pc' := 16) dX3_init_13 rfl (by decide +kernel) ?_
  obtain ⟨u6, e6, H⟩ := bs H
  obtain ⟨p7, e7, H⟩ := bs H
  refine j_newLp (N := 144) (rc := 11) (rs := 544) (pc' := 18) rfl (by decide) dX3_init_16 rfl ak_long ⟨(crf_R e6), trivial⟩ ⟨(crf_R e6), trivial⟩ e7 ?_
  obtain ⟨u8, e8, H⟩ := bs H
  obtain ⟨h9, e9, H⟩ := bs H
  refine j_putF (pc' := 21) dX3_init_18 rfl rfl fp_X3_15 tR (crf_R e8) e9 ?_
  refine j_aload_n (i := 0) (pc' := 22) dX3_init_21 rfl rfl 0 rfl ?_
  obtain ⟨u10, e10, H⟩ := bs H
  obtain ⟨p11, e11, H⟩ := bs H
  refine j_newp (rc := 10) (rs := 540) (pc' := 25) dX3_init_22 rfl nl_X3_19 ⟨(crf_R e10), trivial⟩ ⟨(crf_R e10), trivial⟩ e11 ?_
  refine j_dup (pc' := 26) dX3_init_25 rfl rfl ?_
  obtain ⟨u12, e12, H⟩ := bs H
  obtain ⟨u13, e13, H⟩ := bs H
  obtain ⟨u14, e14, H⟩ := bs H
  obtain ⟨h15, e15, H⟩ := bs H
  refine j_aN (y := yX6_init) (dY := 1) (vs := []) (st := [vr p11.1, vr a0]) (q := p11.1) (mc := 2) (ms := 25) (rc := 8) (rs := 515) (pc' := 29) dX3_init_26 rfl ymX6_init rfl yiX6_init mn_X3_21 (by decide) rfl (Nat.le_of_ble_eq_true rfl) (Nat.le_of_ble_eq_true rfl) e12 ⟨(crf_R e13), (crf_R e14), trivial⟩ ⟨(crf_R e14), trivial⟩ (tX6_init p11.1 p11.2 e15) ?_
  obtain ⟨u16, e16, H⟩ := bs H
  obtain ⟨h17, e17, H⟩ := bs H
  refine j_putF (pc' := 32) dX3_init_29 rfl rfl fp_X3_22 tR (crf_R e16) e17 ?_
  refine j_aload_n (i := 0) (pc' := 33) dX3_init_32 rfl rfl 0 rfl ?_
  obtain ⟨u18, e18, H⟩ := bs H
  obtain ⟨p19, e19, H⟩ := bs H
  refine j_newp (rc := 7) (rs := 509) (pc' := 36) dX3_init_33 rfl nl_X3_26 ⟨(crf_R e18), trivial⟩ ⟨(crf_R e18), trivial⟩ e19 ?_
  refine j_dup (pc' := 37) dX3_init_36 rfl rfl ?_
  obtain ⟨u20, e20, H⟩ := bs H
  obtain ⟨u21, e21, H⟩ := bs H
  obtain ⟨u22, e22, H⟩ := bs H
  obtain ⟨h23, e23, H⟩ := bs H
  refine j_aN (y := yX7_init) (dY := 2) (vs := []) (st := [vr p19.1, vr a0]) (q := p19.1) (mc := 7) (ms := 509) (rc := 0) (rs := 0) (pc' := 40) dX3_init_37 rfl ymX7_init rfl yiX7_init mn_X3_28 (by decide) rfl (Nat.le_of_ble_eq_true rfl) (Nat.le_of_ble_eq_true rfl) e20 ⟨(crf_R e21), (crf_R e22), trivial⟩ ⟨(crf_R e22), trivial⟩ (tX7_init p19.1 p19.2 e23) ?_
  obtain ⟨u24, e24, H⟩ := bs H
  obtain ⟨h25, e25, H⟩ := bs H
  refine j_putF (pc' := 43) dX3_init_40 rfl rfl fp_X3_29 tR (crf_R e24) e25 ?_
  obtain rfl := Option.some.inj H
  exact j_vret dX3_init_43 ⟨rfl, rfl⟩
-- X7_firstNumber
noncomputable def fX7_firstNumber (a0 : Nat) (a1 : Int) (h : Hp) : Option (Int × Hp) :=
  (getR h 6 a0 1).bind fun v1 => (ald h 0 v1 (a1 * 4)).bind fun v2 => some (v2, h)
theorem tX7_firstNumber {L : Nat} {xs : Nat → Int32} {l : Launch} {res : Int × Hp} (a0 : Nat) (a1 : Int) (h : Hp) (ra1 : R32 a1) (H : fX7_firstNumber a0 a1 h = some res) : J L xs l RX7 cX7_firstNumber 2 false 1 (QI res) 0 0 0 (alv 0 [vr a0, vi a1]) [] h := by
  unfold fX7_firstNumber at H
  show J L xs l RX7 cX7_firstNumber 2 false 1 (QI res) 0 0 0 [(0, vr a0), (1, vi a1)] [] h
  refine j_aload_n (i := 0) (pc' := 1) dX7_firstNumber_0 rfl rfl 0 rfl ?_
  obtain ⟨v1, e1, H⟩ := bs H
  refine j_getR (pc' := 4) dX7_firstNumber_1 rfl fl_X7_15 e1 (fun r1 => ?_)
  refine j_iload_n (i := 1) (pc' := 5) dX7_firstNumber_4 rfl rfl 1 rfl ?_
  refine j_iconst (pc' := 6) dX7_firstNumber_5 rfl ?_
  refine j_imul (pc' := 7) dX7_firstNumber_6 rfl ?_
  obtain ⟨v2, e2, H⟩ := bs H
  refine j_iald (pc' := 8) dX7_firstNumber_7 rfl e2 (fun r2 => ?_)
  obtain rfl := Option.some.inj H
  exact j_iret dX7_firstNumber_8 r2 ⟨rfl, rfl⟩
-- X7_setWay
noncomputable def fX7_setWay (a0 : Nat) (a1 : Int) (a2 : Int) (a3 : Int) (h : Hp) : Option (Hp) :=
  (getR h 6 a0 2).bind fun v1 => (ast h 0 v1 ((a1 * 12) + a2) a3).bind fun h2 => (getR h2 6 a0 2).bind fun v3 => (ast h2 0 v3 ((a2 * 12) + a1) a3).bind fun h4 => some h4
theorem tX7_setWay {L : Nat} {xs : Nat → Int32} {l : Launch} {res : Hp} (a0 : Nat) (a1 : Int) (a2 : Int) (a3 : Int) (h : Hp) (ra1 : R32 a1) (ra2 : R32 a2) (ra3 : R32 a3) (H : fX7_setWay a0 a1 a2 a3 h = some res) : J L xs l RX7 cX7_setWay 4 false 1 (QV res) 0 0 0 (alv 0 [vr a0, vi a1, vi a2, vi a3]) [] h := by
  unfold fX7_setWay at H
  show J L xs l RX7 cX7_setWay 4 false 1 (QV res) 0 0 0 [(0, vr a0), (1, vi a1), (2, vi a2), (3, vi a3)] [] h
  refine j_aload_n (i := 0) (pc' := 1) dX7_setWay_0 rfl rfl 0 rfl ?_
  obtain ⟨v1, e1, H⟩ := bs H
  refine j_getR (pc' := 4) dX7_setWay_1 rfl fl_X7_19 e1 (fun r1 => ?_)
  refine j_iload_n (i := 1) (pc' := 5) dX7_setWay_4 rfl rfl 1 rfl ?_
  refine j_bipush (pc' := 7) dX7_setWay_5 rfl (by decide +kernel) ?_
  refine j_imul (pc' := 8) dX7_setWay_7 rfl ?_
  refine j_iload_n (i := 2) (pc' := 9) dX7_setWay_8 rfl rfl 2 rfl ?_
  refine j_iadd (pc' := 10) dX7_setWay_9 rfl ?_
  refine j_iload_n (i := 3) (pc' := 11) dX7_setWay_10 rfl rfl 3 rfl ?_
  obtain ⟨h2, e2, H⟩ := bs H
  refine j_iast (pc' := 12) dX7_setWay_11 rfl ra3 e2 ?_
  refine j_aload_n (i := 0) (pc' := 13) dX7_setWay_12 rfl rfl 0 rfl ?_
  obtain ⟨v3, e3, H⟩ := bs H
  refine j_getR (pc' := 16) dX7_setWay_13 rfl fl_X7_19 e3 (fun r3 => ?_)
  refine j_iload_n (i := 2) (pc' := 17) dX7_setWay_16 rfl rfl 2 rfl ?_
  refine j_bipush (pc' := 19) dX7_setWay_17 rfl (by decide +kernel) ?_
  refine j_imul (pc' := 20) dX7_setWay_19 rfl ?_
  refine j_iload_n (i := 1) (pc' := 21) dX7_setWay_20 rfl rfl 1 rfl ?_
  refine j_iadd (pc' := 22) dX7_setWay_21 rfl ?_
  refine j_iload_n (i := 3) (pc' := 23) dX7_setWay_22 rfl rfl 3 rfl ?_
  obtain ⟨h4, e4, H⟩ := bs H
  refine j_iast (pc' := 24) dX7_setWay_23 rfl ra3 e4 ?_
  obtain rfl := Option.some.inj H
  exact j_vret dX7_setWay_24 ⟨rfl, rfl⟩
-- X3_flatten
noncomputable def fX3_flatten_63  (h : Hp) : Option (Hp) :=
  some h
theorem tX3_flatten_63 {L : Nat} {xs : Nat → Int32} {l : Launch} {res : Hp}  (h : Hp)  (H : fX3_flatten_63  h = some res) : J L xs l RX3 cX3_flatten 4 false 2 (QV res) 0 0 63 [] [] h := by
  unfold fX3_flatten_63 at H
  obtain rfl := Option.some.inj H
  exact j_vret dX3_flatten_63 ⟨rfl, rfl⟩
noncomputable def fX3_flatten_57 (k13 : Nat → Nat → Int → Hp → Option (Hp)) (x0 : Nat) (x1 : Nat) (x2 : Int) (h : Hp) : Option (Hp) :=
  (c32 (x2 + 1)).bind fun _ => k13 x0 x1 (x2 + 1) h
theorem tX3_flatten_57 {L : Nat} {xs : Nat → Int32} {l : Launch} {res : Hp} (k13 : Nat → Nat → Int → Hp → Option (Hp)) (hk13 : ∀ (x0 : Nat) (x1 : Nat) (x2 : Int) (h : Hp), R32 x2 → k13 x0 x1 x2 h = some res → J L xs l RX3 cX3_flatten 4 false 2 (QV res) 0 0 13 [(0, vr x0), (1, vr x1), (2, vi x2)] [] h) (x0 : Nat) (x1 : Nat) (x2 : Int) (h : Hp) (rx2 : R32 x2) (H : fX3_flatten_57 k13 x0 x1 x2 h = some res) : J L xs l RX3 cX3_flatten 4 false 2 (QV res) 0 0 57 [(0, vr x0), (1, vr x1), (2, vi x2)] [] h := by
  unfold fX3_flatten_57 at H
  obtain ⟨u1, e1, H⟩ := bs H
  have r1 := c32_R e1
  refine j_iinc (k0 := 2) (lv' := [(0, vr x0), (1, vr x1), (2, vi (x2 + 1))]) (pc' := 60) dX3_flatten_57 rfl rfl (by decide) [1, 2, 0] rfl ?_
  refine j_goto (tgt := 13) dX3_flatten_60 (by decide) ?_
  exact hk13 x0 x1 (x2 + 1) h r1 H
noncomputable def fX3_flatten_23 (k13 : Nat → Nat → Int → Hp → Option (Hp)) : Nat → Nat → Nat → Int → Int → Hp → Option (Hp)
  | 0, _, _, _, _, _ => none
  | n + 1, x0, x1, x2, x3, h => if x2 ≤ x3 then (fX3_flatten_57 k13 x0 x1 x2 h) else ((getR h 2 x0 3).bind fun v2 => (cob h 6 x1).bind fun _ => (fX7_firstNumber x1 x2 h).bind fun p4 => (cob p4.2 6 x1).bind fun _ => (fX7_firstNumber x1 x3 p4.2).bind fun p6 => (c32 (p4.1 - p6.1)).bind fun _ => (c32 (max (p4.1 - p6.1) (-(p4.1 - p6.1)))).bind fun _ => (cob p6.2 6 v2).bind fun _ => (fX7_setWay v2 x2 x3 (max (p4.1 - p6.1) (-(p4.1 - p6.1))) p6.2).bind fun h10 => (c32 (x3 + 1)).bind fun _ => fX3_flatten_23 k13 n x0 x1 x2 (x3 + 1) h10)
theorem tX3_flatten_23 {L : Nat} {xs : Nat → Int32} {l : Launch} {res : Hp} (k13 : Nat → Nat → Int → Hp → Option (Hp)) (hk13 : ∀ (x0 : Nat) (x1 : Nat) (x2 : Int) (h : Hp), R32 x2 → k13 x0 x1 x2 h = some res → J L xs l RX3 cX3_flatten 4 false 2 (QV res) 0 0 13 [(0, vr x0), (1, vr x1), (2, vi x2)] [] h) : ∀ (n : Nat) (x0 : Nat) (x1 : Nat) (x2 : Int) (x3 : Int) (h : Hp), R32 x2 → R32 x3 → fX3_flatten_23 k13 n x0 x1 x2 x3 h = some res → J L xs l RX3 cX3_flatten 4 false 2 (QV res) 0 0 23 [(0, vr x0), (1, vr x1), (2, vi x2), (3, vi x3)] [] h := by
  intro n
  induction n with
  | zero => intro x0 x1 x2 x3 h rx2 rx3 H; cases H
  | succ n ih =>
    intro x0 x1 x2 x3 h rx2 rx3 H
    rw [fX3_flatten_23] at H
    refine j_iload_n (i := 3) (pc' := 24) dX3_flatten_23 rfl rfl 3 rfl ?_
    refine j_iload_n (i := 2) (pc' := 25) dX3_flatten_24 rfl rfl 2 rfl ?_
    refine j_icmp_ge (tgt := 57) (pc' := 28) dX3_flatten_25 (by decide) rfl rx3 rx2 (fun c1 => ?_) (fun c1 => ?_)
    · rw [if_pos c1] at H
      refine j_sub (lv' := [(0, vr x0), (1, vr x1), (2, vi x2)]) [0, 1, 2] rfl ?_
      exact tX3_flatten_57 _ hk13 x0 x1 x2 h rx2 H
    · rw [if_neg c1] at H
      refine j_aload_n (i := 0) (pc' := 29) dX3_flatten_28 rfl rfl 0 rfl ?_
      obtain ⟨v2, e2, H⟩ := bs H
      refine j_getR (pc' := 32) dX3_flatten_29 rfl fl_X3_29 e2 (fun r2 => ?_)
      refine j_iload_n (i := 2) (pc' := 33) dX3_flatten_32 rfl rfl 2 rfl ?_
      refine j_iload_n (i := 3) (pc' := 34) dX3_flatten_33 rfl rfl 3 rfl ?_
      refine j_aload_n (i := 1) (pc' := 35) dX3_flatten_34 rfl rfl 1 rfl ?_
      refine j_iload_n (i := 2) (pc' := 36) dX3_flatten_35 rfl rfl 2 rfl ?_
      obtain ⟨u3, e3, H⟩ := bs H
      obtain ⟨p4, e4, H⟩ := bs H
      refine j_cVi (y := yX7_firstNumber) (dY := 1) (vs := [vi x2]) (st := [vi x3, vi x2, vr v2]) (q := x1) (pc' := 39) dX3_flatten_36 rfl ymX7_firstNumber yvX7_firstNumber ml_X3_77 (by decide) rfl (Nat.le_of_ble_eq_true rfl) (Nat.le_of_ble_eq_true rfl) e3 (tX7_firstNumber x1 x2 h rx2 e4) (fun r4 z4 => ?_)
      refine j_aload_n (i := 1) (pc' := 40) dX3_flatten_39 rfl rfl 1 rfl ?_
      refine j_iload_n (i := 3) (pc' := 41) dX3_flatten_40 rfl rfl 3 rfl ?_
      obtain ⟨u5, e5, H⟩ := bs H
      obtain ⟨p6, e6, H⟩ := bs H
      refine j_cVi (y := yX7_firstNumber) (dY := 1) (vs := [vi x3]) (st := [vi p4.1, vi x3, vi x2, vr v2]) (q := x1) (pc' := 44) dX3_flatten_41 rfl ymX7_firstNumber yvX7_firstNumber ml_X3_77 (by decide) rfl (Nat.le_of_ble_eq_true rfl) (Nat.le_of_ble_eq_true rfl) e5 (tX7_firstNumber x1 x3 p4.2 rx3 e6) (fun r6 z6 => ?_)
      refine j_isub (pc' := 45) dX3_flatten_44 rfl ?_
      obtain ⟨u7, e7, H⟩ := bs H
      have r7 := c32_R e7
      refine j_mabs (pc' := 48) dX3_flatten_45 rfl ml_X3_80 (by decide) (Nat.le_of_ble_eq_true rfl) r7 ?_
      obtain ⟨u8, e8, H⟩ := bs H
      have r8 := c32_R e8
      obtain ⟨u9, e9, H⟩ := bs H
      obtain ⟨h10, e10, H⟩ := bs H
      refine j_cVv (y := yX7_setWay) (dY := 1) (vs := [vi x2, vi x3, vi (max (p4.1 - p6.1) (-(p4.1 - p6.1)))]) (st := []) (q := v2) (pc' := 51) dX3_flatten_48 rfl ymX7_setWay yvX7_setWay ml_X3_85 (by decide) rfl (Nat.le_of_ble_eq_true rfl) (Nat.le_of_ble_eq_true rfl) e9 (tX7_setWay v2 x2 x3 (max (p4.1 - p6.1) (-(p4.1 - p6.1))) p6.2 rx2 rx3 r8 e10) (fun z10 => ?_)
      obtain ⟨u11, e11, H⟩ := bs H
      have r11 := c32_R e11
      refine j_iinc (k0 := 3) (lv' := [(0, vr x0), (1, vr x1), (2, vi x2), (3, vi (x3 + 1))]) (pc' := 54) dX3_flatten_51 rfl rfl (by decide) [1, 2, 3, 0] rfl ?_
      refine j_goto (tgt := 23) dX3_flatten_54 (by decide) ?_
      exact ih x0 x1 x2 (x3 + 1) h10 rx2 r11 H
noncomputable def fX3_flatten_13 : Nat → Nat → Nat → Int → Hp → Option (Hp)
  | 0, _, _, _, _ => none
  | n + 1, x0, x1, x2, h => (getI h 6 x1 0).bind fun v1 => if v1 ≤ x2 then (fX3_flatten_63 h) else (fX3_flatten_23 (fX3_flatten_13 n) FU x0 x1 x2 0 h)
theorem tX3_flatten_13 {L : Nat} {xs : Nat → Int32} {l : Launch} {res : Hp} : ∀ (n : Nat) (x0 : Nat) (x1 : Nat) (x2 : Int) (h : Hp), R32 x2 → fX3_flatten_13 n x0 x1 x2 h = some res → J L xs l RX3 cX3_flatten 4 false 2 (QV res) 0 0 13 [(0, vr x0), (1, vr x1), (2, vi x2)] [] h := by
  intro n
  induction n with
  | zero => intro x0 x1 x2 h rx2 H; cases H
  | succ n ih =>
    intro x0 x1 x2 h rx2 H
    rw [fX3_flatten_13] at H
    refine j_iload_n (i := 2) (pc' := 14) dX3_flatten_13 rfl rfl 2 rfl ?_
    refine j_aload_n (i := 1) (pc' := 15) dX3_flatten_14 rfl rfl 1 rfl ?_
    obtain ⟨v1, e1, H⟩ := bs H
    refine j_getI (pc' := 18) dX3_flatten_15 rfl fl_X3_44 e1 (fun r1 => ?_)
    refine j_icmp_ge (tgt := 63) (pc' := 21) dX3_flatten_18 (by decide) rfl rx2 r1 (fun c2 => ?_) (fun c2 => ?_)
    · rw [if_pos c2] at H
      refine j_sub (lv' := []) [] rfl ?_
      exact tX3_flatten_63   h  H
    · rw [if_neg c2] at H
      refine j_iconst (pc' := 22) dX3_flatten_21 rfl ?_
      refine j_istore_n (i := 3) (lv' := [(0, vr x0), (1, vr x1), (2, vi x2), (3, vi 0)]) (pc' := 23) dX3_flatten_22 rfl rfl (by decide) [1, 2, 3, 0] rfl ?_
      exact tX3_flatten_23 _ ih FU x0 x1 x2 0 h rx2 ⟨by decide, by decide⟩ H
noncomputable def fX3_flatten (a0 : Nat) (a1 : Nat) (h : Hp) : Option (Hp) :=
  (getR h 2 a0 3).bind fun v1 => (getI h 6 a1 0).bind fun v2 => (putV h 6 v1 0 (vi v2)).bind fun h3 => fX3_flatten_13 FU a0 a1 1 h3
theorem tX3_flatten {L : Nat} {xs : Nat → Int32} {l : Launch} {res : Hp} (a0 : Nat) (a1 : Nat) (h : Hp)  (H : fX3_flatten a0 a1 h = some res) : J L xs l RX3 cX3_flatten 4 false 2 (QV res) 0 0 0 (alv 0 [vr a0, vr a1]) [] h := by
  unfold fX3_flatten at H
  show J L xs l RX3 cX3_flatten 4 false 2 (QV res) 0 0 0 [(0, vr a0), (1, vr a1)] [] h
  refine j_aload_n (i := 0) (pc' := 1) dX3_flatten_0 rfl rfl 0 rfl ?_
  obtain ⟨v1, e1, H⟩ := bs H
  refine j_getR (pc' := 4) dX3_flatten_1 rfl fl_X3_29 e1 (fun r1 => ?_)
  refine j_aload_n (i := 1) (pc' := 5) dX3_flatten_4 rfl rfl 1 rfl ?_
  obtain ⟨v2, e2, H⟩ := bs H
  refine j_getI (pc' := 8) dX3_flatten_5 rfl fl_X3_44 e2 (fun r2 => ?_)
  obtain ⟨h3, e3, H⟩ := bs H
  refine j_putV (pc' := 11) dX3_flatten_8 rfl fp_X3_44 tI r2 e3 ?_
  refine j_iconst (pc' := 12) dX3_flatten_11 rfl ?_
  refine j_istore_n (i := 2) (lv' := [(0, vr a0), (1, vr a1), (2, vi 1)]) (pc' := 13) dX3_flatten_12 rfl rfl (by decide) [1, 2, 0] rfl ?_
  exact tX3_flatten_13   FU a0 a1 1 h3 ⟨by decide, by decide⟩ H
-- X3_sortThings
noncomputable def fX3_sortThings_69  (h : Hp) : Option (Hp) :=
  some h
theorem tX3_sortThings_69 {L : Nat} {xs : Nat → Int32} {l : Launch} {res : Hp}  (h : Hp)  (H : fX3_sortThings_69  h = some res) : J L xs l RX3 cX3_sortThings 4 false 2 (QV res) 0 0 69 [] [] h := by
  unfold fX3_sortThings_69 at H
  obtain rfl := Option.some.inj H
  exact j_vret dX3_sortThings_69 ⟨rfl, rfl⟩
noncomputable def fX3_sortThings_56 (k2 : Nat → Nat → Int → Hp → Option (Hp)) (x0 : Nat) (x1 : Nat) (x2 : Int) (x3 : Int) (h : Hp) : Option (Hp) :=
  (getR h 2 x0 0).bind fun v1 => (ast h 0 v1 x3 x2).bind fun h2 => (c32 (x2 + 1)).bind fun _ => k2 x0 x1 (x2 + 1) h2
theorem tX3_sortThings_56 {L : Nat} {xs : Nat → Int32} {l : Launch} {res : Hp} (k2 : Nat → Nat → Int → Hp → Option (Hp)) (hk2 : ∀ (x0 : Nat) (x1 : Nat) (x2 : Int) (h : Hp), R32 x2 → k2 x0 x1 x2 h = some res → J L xs l RX3 cX3_sortThings 4 false 2 (QV res) 0 0 2 [(0, vr x0), (1, vr x1), (2, vi x2)] [] h) (x0 : Nat) (x1 : Nat) (x2 : Int) (x3 : Int) (h : Hp) (rx2 : R32 x2) (rx3 : R32 x3) (H : fX3_sortThings_56 k2 x0 x1 x2 x3 h = some res) : J L xs l RX3 cX3_sortThings 4 false 2 (QV res) 0 0 56 [(0, vr x0), (1, vr x1), (2, vi x2), (3, vi x3)] [] h := by
  unfold fX3_sortThings_56 at H
  refine j_aload_n (i := 0) (pc' := 57) dX3_sortThings_56 rfl rfl 0 rfl ?_
  obtain ⟨v1, e1, H⟩ := bs H
  refine j_getR (pc' := 60) dX3_sortThings_57 rfl fl_X3_9 e1 (fun r1 => ?_)
  refine j_iload_n (i := 3) (pc' := 61) dX3_sortThings_60 rfl rfl 3 rfl ?_
  refine j_iload_n (i := 2) (pc' := 62) dX3_sortThings_61 rfl rfl 2 rfl ?_
  obtain ⟨h2, e2, H⟩ := bs H
  refine j_iast (pc' := 63) dX3_sortThings_62 rfl rx2 e2 ?_
  obtain ⟨u3, e3, H⟩ := bs H
  have r3 := c32_R e3
  refine j_iinc (k0 := 2) (lv' := [(0, vr x0), (1, vr x1), (2, vi (x2 + 1)), (3, vi x3)]) (pc' := 66) dX3_sortThings_63 rfl rfl (by decide) [1, 2, 0, 3] rfl ?_
  refine j_goto (tgt := 2) dX3_sortThings_66 (by decide) ?_
  refine j_sub (lv' := [(0, vr x0), (1, vr x1), (2, vi (x2 + 1))]) [0, 1, 2] rfl ?_
  exact hk2 x0 x1 (x2 + 1) h2 r3 H
noncomputable def fX3_sortThings_12 (k2 : Nat → Nat → Int → Hp → Option (Hp)) : Nat → Nat → Nat → Int → Int → Hp → Option (Hp)
  | 0, _, _, _, _, _ => none
  | n + 1, x0, x1, x2, x3, h => if x3 ≤ 0 then (fX3_sortThings_56 k2 x0 x1 x2 x3 h) else ((getR h 2 x0 0).bind fun v2 => (ald h 0 v2 (x3 - 1)).bind fun v3 => (cob h 6 x1).bind fun _ => (fX7_firstNumber x1 v3 h).bind fun p5 => (cob p5.2 6 x1).bind fun _ => (fX7_firstNumber x1 x2 p5.2).bind fun p7 => if p5.1 ≤ p7.1 then (fX3_sortThings_56 k2 x0 x1 x2 x3 p7.2) else ((getR p7.2 2 x0 0).bind fun v9 => (getR p7.2 2 x0 0).bind fun v10 => (ald p7.2 0 v10 (x3 - 1)).bind fun v11 => (ast p7.2 0 v9 x3 v11).bind fun h12 => (c32 (x3 + (-1))).bind fun _ => fX3_sortThings_12 k2 n x0 x1 x2 (x3 + (-1)) h12))
theorem tX3_sortThings_12 {L : Nat} {xs : Nat → Int32} {l : Launch} {res : Hp} (k2 : Nat → Nat → Int → Hp → Option (Hp)) (hk2 : ∀ (x0 : Nat) (x1 : Nat) (x2 : Int) (h : Hp), R32 x2 → k2 x0 x1 x2 h = some res → J L xs l RX3 cX3_sortThings 4 false 2 (QV res) 0 0 2 [(0, vr x0), (1, vr x1), (2, vi x2)] [] h) : ∀ (n : Nat) (x0 : Nat) (x1 : Nat) (x2 : Int) (x3 : Int) (h : Hp), R32 x2 → R32 x3 → fX3_sortThings_12 k2 n x0 x1 x2 x3 h = some res → J L xs l RX3 cX3_sortThings 4 false 2 (QV res) 0 0 12 [(0, vr x0), (1, vr x1), (2, vi x2), (3, vi x3)] [] h := by
  intro n
  induction n with
  | zero => intro x0 x1 x2 x3 h rx2 rx3 H; cases H
  | succ n ih =>
    intro x0 x1 x2 x3 h rx2 rx3 H
    rw [fX3_sortThings_12] at H
    refine j_iload_n (i := 3) (pc' := 13) dX3_sortThings_12 rfl rfl 3 rfl ?_
    refine j_if_le (tgt := 56) (pc' := 16) dX3_sortThings_13 (by decide) rfl rx3 (fun c1 => ?_) (fun c1 => ?_)
    · rw [if_pos c1] at H
      exact tX3_sortThings_56 _ hk2 x0 x1 x2 x3 h rx2 rx3 H
    · rw [if_neg c1] at H
      refine j_aload_n (i := 1) (pc' := 17) dX3_sortThings_16 rfl rfl 1 rfl ?_
      refine j_aload_n (i := 0) (pc' := 18) dX3_sortThings_17 rfl rfl 0 rfl ?_
      obtain ⟨v2, e2, H⟩ := bs H
      refine j_getR (pc' := 21) dX3_sortThings_18 rfl fl_X3_9 e2 (fun r2 => ?_)
      refine j_iload_n (i := 3) (pc' := 22) dX3_sortThings_21 rfl rfl 3 rfl ?_
      refine j_iconst (pc' := 23) dX3_sortThings_22 rfl ?_
      refine j_isub (pc' := 24) dX3_sortThings_23 rfl ?_
      obtain ⟨v3, e3, H⟩ := bs H
      refine j_iald (pc' := 25) dX3_sortThings_24 rfl e3 (fun r3 => ?_)
      obtain ⟨u4, e4, H⟩ := bs H
      obtain ⟨p5, e5, H⟩ := bs H
      refine j_cVi (y := yX7_firstNumber) (dY := 1) (vs := [vi v3]) (st := []) (q := x1) (pc' := 28) dX3_sortThings_25 rfl ymX7_firstNumber yvX7_firstNumber ml_X3_77 (by decide) rfl (Nat.le_of_ble_eq_true rfl) (Nat.le_of_ble_eq_true rfl) e4 (tX7_firstNumber x1 v3 h r3 e5) (fun r5 z5 => ?_)
      refine j_aload_n (i := 1) (pc' := 29) dX3_sortThings_28 rfl rfl 1 rfl ?_
      refine j_iload_n (i := 2) (pc' := 30) dX3_sortThings_29 rfl rfl 2 rfl ?_
      obtain ⟨u6, e6, H⟩ := bs H
      obtain ⟨p7, e7, H⟩ := bs H
      refine j_cVi (y := yX7_firstNumber) (dY := 1) (vs := [vi x2]) (st := [vi p5.1]) (q := x1) (pc' := 33) dX3_sortThings_30 rfl ymX7_firstNumber yvX7_firstNumber ml_X3_77 (by decide) rfl (Nat.le_of_ble_eq_true rfl) (Nat.le_of_ble_eq_true rfl) e6 (tX7_firstNumber x1 x2 p5.2 rx2 e7) (fun r7 z7 => ?_)
      refine j_icmp_le (tgt := 56) (pc' := 36) dX3_sortThings_33 (by decide) rfl r5 r7 (fun c8 => ?_) (fun c8 => ?_)
      · rw [if_pos c8] at H
        exact tX3_sortThings_56 _ hk2 x0 x1 x2 x3 p7.2 rx2 rx3 H
      · rw [if_neg c8] at H
        refine j_aload_n (i := 0) (pc' := 37) dX3_sortThings_36 rfl rfl 0 rfl ?_
        obtain ⟨v9, e9, H⟩ := bs H
        refine j_getR (pc' := 40) dX3_sortThings_37 rfl fl_X3_9 e9 (fun r9 => ?_)
        refine j_iload_n (i := 3) (pc' := 41) dX3_sortThings_40 rfl rfl 3 rfl ?_
        refine j_aload_n (i := 0) (pc' := 42) dX3_sortThings_41 rfl rfl 0 rfl ?_
        obtain ⟨v10, e10, H⟩ := bs H
        refine j_getR (pc' := 45) dX3_sortThings_42 rfl fl_X3_9 e10 (fun r10 => ?_)
        refine j_iload_n (i := 3) (pc' := 46) dX3_sortThings_45 rfl rfl 3 rfl ?_
        refine j_iconst (pc' := 47) dX3_sortThings_46 rfl ?_
        refine j_isub (pc' := 48) dX3_sortThings_47 rfl ?_
        obtain ⟨v11, e11, H⟩ := bs H
        refine j_iald (pc' := 49) dX3_sortThings_48 rfl e11 (fun r11 => ?_)
        obtain ⟨h12, e12, H⟩ := bs H
        refine j_iast (pc' := 50) dX3_sortThings_49 rfl r11 e12 ?_
        obtain ⟨u13, e13, H⟩ := bs H
        have r13 := c32_R e13
        refine j_iinc (k0 := 3) (lv' := [(0, vr x0), (1, vr x1), (2, vi x2), (3, vi (x3 + (-1)))]) (pc' := 53) dX3_sortThings_50 rfl rfl (by decide) [1, 2, 3, 0] rfl ?_
        refine j_goto (tgt := 12) dX3_sortThings_53 (by decide) ?_
        exact ih x0 x1 x2 (x3 + (-1)) h12 rx2 r13 H
noncomputable def fX3_sortThings_2 : Nat → Nat → Nat → Int → Hp → Option (Hp)
  | 0, _, _, _, _ => none
  | n + 1, x0, x1, x2, h => (getI h 6 x1 0).bind fun v1 => if v1 ≤ x2 then (fX3_sortThings_69 h) else (fX3_sortThings_12 (fX3_sortThings_2 n) FU x0 x1 x2 x2 h)
theorem tX3_sortThings_2 {L : Nat} {xs : Nat → Int32} {l : Launch} {res : Hp} : ∀ (n : Nat) (x0 : Nat) (x1 : Nat) (x2 : Int) (h : Hp), R32 x2 → fX3_sortThings_2 n x0 x1 x2 h = some res → J L xs l RX3 cX3_sortThings 4 false 2 (QV res) 0 0 2 [(0, vr x0), (1, vr x1), (2, vi x2)] [] h := by
  intro n
  induction n with
  | zero => intro x0 x1 x2 h rx2 H; cases H
  | succ n ih =>
    intro x0 x1 x2 h rx2 H
    rw [fX3_sortThings_2] at H
    refine j_iload_n (i := 2) (pc' := 3) dX3_sortThings_2 rfl rfl 2 rfl ?_
    refine j_aload_n (i := 1) (pc' := 4) dX3_sortThings_3 rfl rfl 1 rfl ?_
    obtain ⟨v1, e1, H⟩ := bs H
    refine j_getI (pc' := 7) dX3_sortThings_4 rfl fl_X3_44 e1 (fun r1 => ?_)
    refine j_icmp_ge (tgt := 69) (pc' := 10) dX3_sortThings_7 (by decide) rfl rx2 r1 (fun c2 => ?_) (fun c2 => ?_)
    · rw [if_pos c2] at H
      refine j_sub (lv' := []) [] rfl ?_
      exact tX3_sortThings_69   h  H
    · rw [if_neg c2] at H
      refine j_iload_n (i := 2) (pc' := 11) dX3_sortThings_10 rfl rfl 2 rfl ?_
      refine j_istore_n (i := 3) (lv' := [(0, vr x0), (1, vr x1), (2, vi x2), (3, vi x2)]) (pc' := 12) dX3_sortThings_11 rfl rfl (by decide) [1, 2, 3, 0] rfl ?_
      exact tX3_sortThings_12 _ ih FU x0 x1 x2 x2 h rx2 rx2 H
noncomputable def fX3_sortThings (a0 : Nat) (a1 : Nat) (h : Hp) : Option (Hp) :=
  fX3_sortThings_2 FU a0 a1 0 h
theorem tX3_sortThings {L : Nat} {xs : Nat → Int32} {l : Launch} {res : Hp} (a0 : Nat) (a1 : Nat) (h : Hp)  (H : fX3_sortThings a0 a1 h = some res) : J L xs l RX3 cX3_sortThings 4 false 2 (QV res) 0 0 0 (alv 0 [vr a0, vr a1]) [] h := by
  unfold fX3_sortThings at H
  show J L xs l RX3 cX3_sortThings 4 false 2 (QV res) 0 0 0 [(0, vr a0), (1, vr a1)] [] h
  refine j_iconst (pc' := 1) dX3_sortThings_0 rfl ?_
  refine j_istore_n (i := 2) (lv' := [(0, vr a0), (1, vr a1), (2, vi 0)]) (pc' := 2) dX3_sortThings_1 rfl rfl (by decide) [1, 2, 0] rfl ?_
  exact tX3_sortThings_2   FU a0 a1 0 h ⟨by decide, by decide⟩ H
-- X3_costAllSpans
noncomputable def fX3_costAllSpans_75  (h : Hp) : Option (Hp) :=
  some h
theorem tX3_costAllSpans_75 {L : Nat} {xs : Nat → Int32} {l : Launch} {res : Hp}  (h : Hp)  (H : fX3_costAllSpans_75  h = some res) : J L xs l RX3 cX3_costAllSpans 5 false 5 (QV res) 0 0 75 [] [] h := by
  unfold fX3_costAllSpans_75 at H
  obtain rfl := Option.some.inj H
  exact j_vret dX3_costAllSpans_75 ⟨rfl, rfl⟩
noncomputable def fX3_costAllSpans_69 (k2 : Nat → Int → Int → Hp → Option (Hp)) (x0 : Nat) (x1 : Int) (x2 : Int) (h : Hp) : Option (Hp) :=
  (c32 (x2 + 1)).bind fun _ => k2 x0 x1 (x2 + 1) h
theorem tX3_costAllSpans_69 {L : Nat} {xs : Nat → Int32} {l : Launch} {res : Hp} (k2 : Nat → Int → Int → Hp → Option (Hp)) (hk2 : ∀ (x0 : Nat) (x1 : Int) (x2 : Int) (h : Hp), R32 x1 → R32 x2 → k2 x0 x1 x2 h = some res → J L xs l RX3 cX3_costAllSpans 5 false 5 (QV res) 0 0 2 [(0, vr x0), (1, vi x1), (2, vi x2)] [] h) (x0 : Nat) (x1 : Int) (x2 : Int) (h : Hp) (rx1 : R32 x1) (rx2 : R32 x2) (H : fX3_costAllSpans_69 k2 x0 x1 x2 h = some res) : J L xs l RX3 cX3_costAllSpans 5 false 5 (QV res) 0 0 69 [(0, vr x0), (1, vi x1), (2, vi x2)] [] h := by
  unfold fX3_costAllSpans_69 at H
  obtain ⟨u1, e1, H⟩ := bs H
  have r1 := c32_R e1
  refine j_iinc (k0 := 2) (lv' := [(0, vr x0), (1, vi x1), (2, vi (x2 + 1))]) (pc' := 72) dX3_costAllSpans_69 rfl rfl (by decide) [1, 2, 0] rfl ?_
  refine j_goto (tgt := 2) dX3_costAllSpans_72 (by decide) ?_
  exact hk2 x0 x1 (x2 + 1) h rx1 r1 H
noncomputable def fX3_costAllSpans_18 (k2 : Nat → Int → Int → Hp → Option (Hp)) : Nat → Nat → Int → Int → Int → Int → Hp → Option (Hp)
  | 0, _, _, _, _, _, _ => none
  | n + 1, x0, x1, x2, x3, x4, h => (getR h 2 x0 3).bind fun v1 => (getI h 6 v1 0).bind fun v2 => if v2 ≤ x4 then (fX3_costAllSpans_69 k2 x0 x1 x2 h) else ((getR h 2 x0 0).bind fun v4 => (ald h 0 v4 x4).bind fun v5 => (getR h 2 x0 1).bind fun v6 => (getR h 2 x0 3).bind fun v7 => (fX0_ofHeap v7 x1 (bOr x3 (bShl 1 v5)) h).bind fun p8 => (ast p8.2 1 v6 ((x2 * 12) + x4) p8.1).bind fun h9 => (c32 (x4 + 1)).bind fun _ => fX3_costAllSpans_18 k2 n x0 x1 x2 (bOr x3 (bShl 1 v5)) (x4 + 1) h9)
theorem tX3_costAllSpans_18 {L : Nat} {xs : Nat → Int32} {l : Launch} {res : Hp} (k2 : Nat → Int → Int → Hp → Option (Hp)) (hk2 : ∀ (x0 : Nat) (x1 : Int) (x2 : Int) (h : Hp), R32 x1 → R32 x2 → k2 x0 x1 x2 h = some res → J L xs l RX3 cX3_costAllSpans 5 false 5 (QV res) 0 0 2 [(0, vr x0), (1, vi x1), (2, vi x2)] [] h) : ∀ (n : Nat) (x0 : Nat) (x1 : Int) (x2 : Int) (x3 : Int) (x4 : Int) (h : Hp), R32 x1 → R32 x2 → R32 x3 → R32 x4 → fX3_costAllSpans_18 k2 n x0 x1 x2 x3 x4 h = some res → J L xs l RX3 cX3_costAllSpans 5 false 5 (QV res) 0 0 18 [(0, vr x0), (1, vi x1), (2, vi x2), (3, vi x3), (4, vi x4)] [] h := by
  intro n
  induction n with
  | zero => intro x0 x1 x2 x3 x4 h rx1 rx2 rx3 rx4 H; cases H
  | succ n ih =>
    intro x0 x1 x2 x3 x4 h rx1 rx2 rx3 rx4 H
    rw [fX3_costAllSpans_18] at H
    refine j_iload (pc' := 20) dX3_costAllSpans_18 rfl 4 rfl ?_
    refine j_aload_n (i := 0) (pc' := 21) dX3_costAllSpans_20 rfl rfl 0 rfl ?_
    obtain ⟨v1, e1, H⟩ := bs H
    refine j_getR (pc' := 24) dX3_costAllSpans_21 rfl fl_X3_29 e1 (fun r1 => ?_)
    obtain ⟨v2, e2, H⟩ := bs H
    refine j_getI (pc' := 27) dX3_costAllSpans_24 rfl fl_X3_44 e2 (fun r2 => ?_)
    refine j_icmp_ge (tgt := 69) (pc' := 30) dX3_costAllSpans_27 (by decide) rfl rx4 r2 (fun c3 => ?_) (fun c3 => ?_)
    · rw [if_pos c3] at H
      refine j_sub (lv' := [(0, vr x0), (1, vi x1), (2, vi x2)]) [0, 1, 2] rfl ?_
      exact tX3_costAllSpans_69 _ hk2 x0 x1 x2 h rx1 rx2 H
    · rw [if_neg c3] at H
      refine j_iload_n (i := 3) (pc' := 31) dX3_costAllSpans_30 rfl rfl 3 rfl ?_
      refine j_iconst (pc' := 32) dX3_costAllSpans_31 rfl ?_
      refine j_aload_n (i := 0) (pc' := 33) dX3_costAllSpans_32 rfl rfl 0 rfl ?_
      obtain ⟨v4, e4, H⟩ := bs H
      refine j_getR (pc' := 36) dX3_costAllSpans_33 rfl fl_X3_9 e4 (fun r4 => ?_)
      refine j_iload (pc' := 38) dX3_costAllSpans_36 rfl 4 rfl ?_
      obtain ⟨v5, e5, H⟩ := bs H
      refine j_iald (pc' := 39) dX3_costAllSpans_38 rfl e5 (fun r5 => ?_)
      refine j_ishl (pc' := 40) dX3_costAllSpans_39 rfl ?_
      refine j_ior (pc' := 41) dX3_costAllSpans_40 rfl ?_
      refine j_istore_n (i := 3) (lv' := [(0, vr x0), (1, vi x1), (2, vi x2), (3, vi (bOr x3 (bShl 1 v5))), (4, vi x4)]) (pc' := 42) dX3_costAllSpans_41 rfl rfl (by decide) [1, 2, 3, 0, 4] rfl ?_
      refine j_aload_n (i := 0) (pc' := 43) dX3_costAllSpans_42 rfl rfl 0 rfl ?_
      obtain ⟨v6, e6, H⟩ := bs H
      refine j_getR (pc' := 46) dX3_costAllSpans_43 rfl fl_X3_15 e6 (fun r6 => ?_)
      refine j_iload_n (i := 2) (pc' := 47) dX3_costAllSpans_46 rfl rfl 2 rfl ?_
      refine j_bipush (pc' := 49) dX3_costAllSpans_47 rfl (by decide +kernel) ?_
      refine j_imul (pc' := 50) dX3_costAllSpans_49 rfl ?_
      refine j_iload (pc' := 52) dX3_costAllSpans_50 rfl 4 rfl ?_
      refine j_iadd (pc' := 53) dX3_costAllSpans_52 rfl ?_
      refine j_aload_n (i := 0) (pc' := 54) dX3_costAllSpans_53 rfl rfl 0 rfl ?_
      obtain ⟨v7, e7, H⟩ := bs H
      refine j_getR (pc' := 57) dX3_costAllSpans_54 rfl fl_X3_29 e7 (fun r7 => ?_)
      refine j_iload_n (i := 1) (pc' := 58) dX3_costAllSpans_57 rfl rfl 1 rfl ?_
      refine j_iload_n (i := 3) (pc' := 59) dX3_costAllSpans_58 rfl rfl 3 rfl ?_
      obtain ⟨p8, e8, H⟩ := bs H
      refine j_cSl (y := yX0_ofHeap) (dY := 4) (vs := [vr v7, vi x1, vi (bOr x3 (bShl 1 v5))]) (st := [vi ((x2 * 12) + x4), vr v6]) (pc' := 62) dX3_costAllSpans_59 rfl ymX0_ofHeap ysX0_ofHeap ml_X3_89 (by decide) rfl (Nat.le_of_ble_eq_true rfl) (Nat.le_of_ble_eq_true rfl) (tX0_ofHeap v7 x1 (bOr x3 (bShl 1 v5)) h rx1 (R32_to _) e8) (fun r8 z8 => ?_)
      obtain ⟨h9, e9, H⟩ := bs H
      refine j_last (pc' := 63) dX3_costAllSpans_62 rfl r8 e9 ?_
      obtain ⟨u10, e10, H⟩ := bs H
      have r10 := c32_R e10
      refine j_iinc (k0 := 4) (lv' := [(0, vr x0), (1, vi x1), (2, vi x2), (3, vi (bOr x3 (bShl 1 v5))), (4, vi (x4 + 1))]) (pc' := 66) dX3_costAllSpans_63 rfl rfl (by decide) [1, 2, 3, 4, 0] rfl ?_
      refine j_goto (tgt := 18) dX3_costAllSpans_66 (by decide) ?_
      exact ih x0 x1 x2 (bOr x3 (bShl 1 v5)) (x4 + 1) h9 rx1 rx2 (R32_to _) r10 H
noncomputable def fX3_costAllSpans_2 : Nat → Nat → Int → Int → Hp → Option (Hp)
  | 0, _, _, _, _ => none
  | n + 1, x0, x1, x2, h => (getR h 2 x0 3).bind fun v1 => (getI h 6 v1 0).bind fun v2 => if v2 ≤ x2 then (fX3_costAllSpans_75 h) else (fX3_costAllSpans_18 (fX3_costAllSpans_2 n) FU x0 x1 x2 0 x2 h)
theorem tX3_costAllSpans_2 {L : Nat} {xs : Nat → Int32} {l : Launch} {res : Hp} : ∀ (n : Nat) (x0 : Nat) (x1 : Int) (x2 : Int) (h : Hp), R32 x1 → R32 x2 → fX3_costAllSpans_2 n x0 x1 x2 h = some res → J L xs l RX3 cX3_costAllSpans 5 false 5 (QV res) 0 0 2 [(0, vr x0), (1, vi x1), (2, vi x2)] [] h := by
  intro n
  induction n with
  | zero => intro x0 x1 x2 h rx1 rx2 H; cases H
  | succ n ih =>
    intro x0 x1 x2 h rx1 rx2 H
    rw [fX3_costAllSpans_2] at H
    refine j_iload_n (i := 2) (pc' := 3) dX3_costAllSpans_2 rfl rfl 2 rfl ?_
    refine j_aload_n (i := 0) (pc' := 4) dX3_costAllSpans_3 rfl rfl 0 rfl ?_
    obtain ⟨v1, e1, H⟩ := bs H
    refine j_getR (pc' := 7) dX3_costAllSpans_4 rfl fl_X3_29 e1 (fun r1 => ?_)
    obtain ⟨v2, e2, H⟩ := bs H
    refine j_getI (pc' := 10) dX3_costAllSpans_7 rfl fl_X3_44 e2 (fun r2 => ?_)
    refine j_icmp_ge (tgt := 75) (pc' := 13) dX3_costAllSpans_10 (by decide) rfl rx2 r2 (fun c3 => ?_) (fun c3 => ?_)
    · rw [if_pos c3] at H
      refine j_sub (lv' := []) [] rfl ?_
      exact tX3_costAllSpans_75   h  H
    · rw [if_neg c3] at H
      refine j_iconst (pc' := 14) dX3_costAllSpans_13 rfl ?_
      refine j_istore_n (i := 3) (lv' := [(0, vr x0), (1, vi x1), (2, vi x2), (3, vi 0)]) (pc' := 15) dX3_costAllSpans_14 rfl rfl (by decide) [1, 2, 3, 0] rfl ?_
      refine j_iload_n (i := 2) (pc' := 16) dX3_costAllSpans_15 rfl rfl 2 rfl ?_
      refine j_istore (lv' := [(0, vr x0), (1, vi x1), (2, vi x2), (3, vi 0), (4, vi x2)]) (pc' := 18) dX3_costAllSpans_16 rfl (by decide) [1, 2, 3, 4, 0] rfl ?_
      exact tX3_costAllSpans_18 _ ih FU x0 x1 x2 0 x2 h rx1 rx2 ⟨by decide, by decide⟩ rx2 H
noncomputable def fX3_costAllSpans (a0 : Nat) (a1 : Int) (h : Hp) : Option (Hp) :=
  fX3_costAllSpans_2 FU a0 a1 0 h
theorem tX3_costAllSpans {L : Nat} {xs : Nat → Int32} {l : Launch} {res : Hp} (a0 : Nat) (a1 : Int) (h : Hp) (ra1 : R32 a1) (H : fX3_costAllSpans a0 a1 h = some res) : J L xs l RX3 cX3_costAllSpans 5 false 5 (QV res) 0 0 0 (alv 0 [vr a0, vi a1]) [] h := by
  unfold fX3_costAllSpans at H
  show J L xs l RX3 cX3_costAllSpans 5 false 5 (QV res) 0 0 0 [(0, vr a0), (1, vi a1)] [] h
  refine j_iconst (pc' := 1) dX3_costAllSpans_0 rfl ?_
  refine j_istore_n (i := 2) (lv' := [(0, vr a0), (1, vi a1), (2, vi 0)]) (pc' := 2) dX3_costAllSpans_1 rfl rfl (by decide) [1, 2, 0] rfl ?_
  exact tX3_costAllSpans_2   FU a0 a1 0 h ra1 ⟨by decide, by decide⟩ H
-- X3_endsAt
noncomputable def fX3_endsAt_26 (s0 : Int) (h : Hp) : Option (Int × Hp) :=
  (cbo s0).bind fun _ => some (s0, h)
theorem tX3_endsAt_26 {L : Nat} {xs : Nat → Int32} {l : Launch} {res : Int × Hp} (s0 : Int) (h : Hp) (rs0 : R32 s0) (H : fX3_endsAt_26 s0 h = some res) : J L xs l RX3 cX3_endsAt 3 false 2 (QB res) 0 0 26 [] [vi s0] h := by
  unfold fX3_endsAt_26 at H
  obtain ⟨u1, e1, H⟩ := bs H
  obtain rfl := Option.some.inj H
  exact j_iret dX3_endsAt_26 rs0 ⟨rfl, rfl, cbo_R e1⟩
noncomputable def fX3_endsAt_21  (h : Hp) : Option (Int × Hp) :=
  fX3_endsAt_26 1 h
theorem tX3_endsAt_21 {L : Nat} {xs : Nat → Int32} {l : Launch} {res : Int × Hp}  (h : Hp)  (H : fX3_endsAt_21  h = some res) : J L xs l RX3 cX3_endsAt 3 false 2 (QB res) 0 0 21 [] [] h := by
  unfold fX3_endsAt_21 at H
  refine j_iconst (pc' := 22) dX3_endsAt_21 rfl ?_
  refine j_goto (tgt := 26) dX3_endsAt_22 (by decide) ?_
  exact tX3_endsAt_26   1 h ⟨by decide, by decide⟩ H
noncomputable def fX3_endsAt (a0 : Nat) (a1 : Int) (a2 : Int) (h : Hp) : Option (Int × Hp) :=
  (getR h 2 a0 3).bind fun v1 => (getI h 6 v1 0).bind fun v2 => (c32 (v2 - 1)).bind fun _ => if a2 = (v2 - 1) then (fX3_endsAt_21 h) else ((fX0_has a1 a2 h).bind fun p5 => if p5.1 = 0 then (fX3_endsAt_26 0 p5.2) else (fX3_endsAt_21 p5.2))
theorem tX3_endsAt {L : Nat} {xs : Nat → Int32} {l : Launch} {res : Int × Hp} (a0 : Nat) (a1 : Int) (a2 : Int) (h : Hp) (ra1 : R32 a1) (ra2 : R32 a2) (H : fX3_endsAt a0 a1 a2 h = some res) : J L xs l RX3 cX3_endsAt 3 false 2 (QB res) 0 0 0 (alv 0 [vr a0, vi a1, vi a2]) [] h := by
  unfold fX3_endsAt at H
  show J L xs l RX3 cX3_endsAt 3 false 2 (QB res) 0 0 0 [(0, vr a0), (1, vi a1), (2, vi a2)] [] h
  refine j_iload_n (i := 2) (pc' := 1) dX3_endsAt_0 rfl rfl 2 rfl ?_
  refine j_aload_n (i := 0) (pc' := 2) dX3_endsAt_1 rfl rfl 0 rfl ?_
  obtain ⟨v1, e1, H⟩ := bs H
  refine j_getR (pc' := 5) dX3_endsAt_2 rfl fl_X3_29 e1 (fun r1 => ?_)
  obtain ⟨v2, e2, H⟩ := bs H
  refine j_getI (pc' := 8) dX3_endsAt_5 rfl fl_X3_44 e2 (fun r2 => ?_)
  refine j_iconst (pc' := 9) dX3_endsAt_8 rfl ?_
  refine j_isub (pc' := 10) dX3_endsAt_9 rfl ?_
  obtain ⟨u3, e3, H⟩ := bs H
  have r3 := c32_R e3
  refine j_icmp_eq (tgt := 21) (pc' := 13) dX3_endsAt_10 (by decide) rfl ra2 r3 (fun c4 => ?_) (fun c4 => ?_)
  · rw [if_pos c4] at H
    refine j_sub (lv' := []) [] rfl ?_
    exact tX3_endsAt_21   h  H
  · rw [if_neg c4] at H
    refine j_iload_n (i := 1) (pc' := 14) dX3_endsAt_13 rfl rfl 1 rfl ?_
    refine j_iload_n (i := 2) (pc' := 15) dX3_endsAt_14 rfl rfl 2 rfl ?_
    obtain ⟨p5, e5, H⟩ := bs H
    refine j_cSb (y := yX0_has) (dY := 1) (vs := [vi a1, vi a2]) (st := []) (pc' := 18) dX3_endsAt_15 rfl ymX0_has ysX0_has ml_X3_95 (by decide) rfl (Nat.le_of_ble_eq_true rfl) (Nat.le_of_ble_eq_true rfl) (tX0_has a1 a2 h ra1 ra2 e5) (fun r5 b5 z5 => ?_)
    refine j_if_eq (tgt := 25) (pc' := 21) dX3_endsAt_18 (by decide) rfl r5 (fun c6 => ?_) (fun c6 => ?_)
    · rw [if_pos c6] at H
      refine j_iconst (pc' := 26) dX3_endsAt_25 rfl ?_
      refine j_sub (lv' := []) [] rfl ?_
      exact tX3_endsAt_26   0 p5.2 ⟨by decide, by decide⟩ H
    · rw [if_neg c6] at H
      refine j_sub (lv' := []) [] rfl ?_
      exact tX3_endsAt_21   p5.2  H
-- X3_costOf
noncomputable def fX3_costOf_61 (x3 : Int) (h : Hp) : Option (Int × Hp) :=
  some (x3, h)
theorem tX3_costOf_61 {L : Nat} {xs : Nat → Int32} {l : Launch} {res : Int × Hp} (x3 : Int) (h : Hp) (rx3 : R64 x3) (H : fX3_costOf_61 x3 h = some res) : J L xs l RX3 cX3_costOf 7 false 3 (QL res) 0 0 61 [(3, vl x3)] [] h := by
  unfold fX3_costOf_61 at H
  refine j_lload_n (i := 3) (pc' := 62) dX3_costOf_61 rfl rfl 0 rfl ?_
  obtain rfl := Option.some.inj H
  exact j_lret dX3_costOf_62 rx3 ⟨rfl, rfl⟩
noncomputable def fX3_costOf_55 (k8 : Nat → Int → Int → Int → Int → Int → Hp → Option (Int × Hp)) (x0 : Nat) (x1 : Int) (x2 : Int) (x3 : Int) (x5 : Int) (x6 : Int) (h : Hp) : Option (Int × Hp) :=
  (c32 (x6 + 1)).bind fun _ => k8 x0 x1 x2 x3 x5 (x6 + 1) h
theorem tX3_costOf_55 {L : Nat} {xs : Nat → Int32} {l : Launch} {res : Int × Hp} (k8 : Nat → Int → Int → Int → Int → Int → Hp → Option (Int × Hp)) (hk8 : ∀ (x0 : Nat) (x1 : Int) (x2 : Int) (x3 : Int) (x5 : Int) (x6 : Int) (h : Hp), R32 x1 → R32 x2 → R64 x3 → R32 x5 → R32 x6 → k8 x0 x1 x2 x3 x5 x6 h = some res → J L xs l RX3 cX3_costOf 7 false 3 (QL res) 0 0 8 [(0, vr x0), (1, vi x1), (2, vi x2), (3, vl x3), (5, vi x5), (6, vi x6)] [] h) (x0 : Nat) (x1 : Int) (x2 : Int) (x3 : Int) (x5 : Int) (x6 : Int) (h : Hp) (rx1 : R32 x1) (rx2 : R32 x2) (rx3 : R64 x3) (rx5 : R32 x5) (rx6 : R32 x6) (H : fX3_costOf_55 k8 x0 x1 x2 x3 x5 x6 h = some res) : J L xs l RX3 cX3_costOf 7 false 3 (QL res) 0 0 55 [(0, vr x0), (1, vi x1), (2, vi x2), (3, vl x3), (5, vi x5), (6, vi x6)] [] h := by
  unfold fX3_costOf_55 at H
  obtain ⟨u1, e1, H⟩ := bs H
  have r1 := c32_R e1
  refine j_iinc (k0 := 5) (lv' := [(0, vr x0), (1, vi x1), (2, vi x2), (3, vl x3), (5, vi x5), (6, vi (x6 + 1))]) (pc' := 58) dX3_costOf_55 rfl rfl (by decide) [1, 2, 3, 4, 5, 0] rfl ?_
  refine j_goto (tgt := 8) dX3_costOf_58 (by decide) ?_
  exact hk8 x0 x1 x2 x3 x5 (x6 + 1) h rx1 rx2 rx3 rx5 r1 H
noncomputable def fX3_costOf_8 : Nat → Nat → Int → Int → Int → Int → Int → Hp → Option (Int × Hp)
  | 0, _, _, _, _, _, _, _ => none
  | n + 1, x0, x1, x2, x3, x5, x6, h => (getR h 2 x0 3).bind fun v1 => (getI h 6 v1 0).bind fun v2 => if v2 ≤ x6 then (fX3_costOf_61 x3 h) else ((cob h 2 x0).bind fun _ => (fX3_endsAt x0 x2 x6 h).bind fun p5 => if p5.1 = 0 then (fX3_costOf_55 (fX3_costOf_8 n) x0 x1 x2 x3 x5 x6 p5.2) else ((getR p5.2 2 x0 1).bind fun v7 => (ald p5.2 1 v7 ((x5 * 12) + x6)).bind fun v8 => (fX0_with x1 x3 v8 p5.2).bind fun p9 => (c32 (x6 + 1)).bind fun _ => fX3_costOf_55 (fX3_costOf_8 n) x0 x1 x2 p9.1 (x6 + 1) x6 p9.2))
theorem tX3_costOf_8 {L : Nat} {xs : Nat → Int32} {l : Launch} {res : Int × Hp} : ∀ (n : Nat) (x0 : Nat) (x1 : Int) (x2 : Int) (x3 : Int) (x5 : Int) (x6 : Int) (h : Hp), R32 x1 → R32 x2 → R64 x3 → R32 x5 → R32 x6 → fX3_costOf_8 n x0 x1 x2 x3 x5 x6 h = some res → J L xs l RX3 cX3_costOf 7 false 3 (QL res) 0 0 8 [(0, vr x0), (1, vi x1), (2, vi x2), (3, vl x3), (5, vi x5), (6, vi x6)] [] h := by
  intro n
  induction n with
  | zero => intro x0 x1 x2 x3 x5 x6 h rx1 rx2 rx3 rx5 rx6 H; cases H
  | succ n ih =>
    intro x0 x1 x2 x3 x5 x6 h rx1 rx2 rx3 rx5 rx6 H
    rw [fX3_costOf_8] at H
    refine j_iload (pc' := 10) dX3_costOf_8 rfl 5 rfl ?_
    refine j_aload_n (i := 0) (pc' := 11) dX3_costOf_10 rfl rfl 0 rfl ?_
    obtain ⟨v1, e1, H⟩ := bs H
    refine j_getR (pc' := 14) dX3_costOf_11 rfl fl_X3_29 e1 (fun r1 => ?_)
    obtain ⟨v2, e2, H⟩ := bs H
    refine j_getI (pc' := 17) dX3_costOf_14 rfl fl_X3_44 e2 (fun r2 => ?_)
    refine j_icmp_ge (tgt := 61) (pc' := 20) dX3_costOf_17 (by decide) rfl rx6 r2 (fun c3 => ?_) (fun c3 => ?_)
    · rw [if_pos c3] at H
      refine j_sub (lv' := [(3, vl x3)]) [3] rfl ?_
      exact tX3_costOf_61   x3 h rx3 H
    · rw [if_neg c3] at H
      refine j_aload_n (i := 0) (pc' := 21) dX3_costOf_20 rfl rfl 0 rfl ?_
      refine j_iload_n (i := 2) (pc' := 22) dX3_costOf_21 rfl rfl 2 rfl ?_
      refine j_iload (pc' := 24) dX3_costOf_22 rfl 5 rfl ?_
      obtain ⟨u4, e4, H⟩ := bs H
      obtain ⟨p5, e5, H⟩ := bs H
      refine j_cVb (y := yX3_endsAt) (dY := 2) (vs := [vi x2, vi x6]) (st := []) (q := x0) (pc' := 27) dX3_costOf_24 rfl ymX3_endsAt yvX3_endsAt ml_X3_99 (by decide) rfl (Nat.le_of_ble_eq_true rfl) (Nat.le_of_ble_eq_true rfl) e4 (tX3_endsAt x0 x2 x6 h rx2 rx6 e5) (fun r5 b5 z5 => ?_)
      refine j_if_eq (tgt := 55) (pc' := 30) dX3_costOf_27 (by decide) rfl r5 (fun c6 => ?_) (fun c6 => ?_)
      · rw [if_pos c6] at H
        exact tX3_costOf_55 _ ih x0 x1 x2 x3 x5 x6 p5.2 rx1 rx2 rx3 rx5 rx6 H
      · rw [if_neg c6] at H
        refine j_iload_n (i := 1) (pc' := 31) dX3_costOf_30 rfl rfl 1 rfl ?_
        refine j_lload_n (i := 3) (pc' := 32) dX3_costOf_31 rfl rfl 3 rfl ?_
        refine j_aload_n (i := 0) (pc' := 33) dX3_costOf_32 rfl rfl 0 rfl ?_
        obtain ⟨v7, e7, H⟩ := bs H
        refine j_getR (pc' := 36) dX3_costOf_33 rfl fl_X3_15 e7 (fun r7 => ?_)
        refine j_iload (pc' := 38) dX3_costOf_36 rfl 4 rfl ?_
        refine j_bipush (pc' := 40) dX3_costOf_38 rfl (by decide +kernel) ?_
        refine j_imul (pc' := 41) dX3_costOf_40 rfl ?_
        refine j_iload (pc' := 43) dX3_costOf_41 rfl 5 rfl ?_
        refine j_iadd (pc' := 44) dX3_costOf_43 rfl ?_
        obtain ⟨v8, e8, H⟩ := bs H
        refine j_lald (pc' := 45) dX3_costOf_44 rfl e8 (fun r8 => ?_)
        obtain ⟨p9, e9, H⟩ := bs H
        refine j_cSl (y := yX0_with) (dY := 1) (vs := [vi x1, vl x3, vl v8]) (st := []) (pc' := 48) dX3_costOf_45 rfl ymX0_with ysX0_with ml_X3_102 (by decide) rfl (Nat.le_of_ble_eq_true rfl) (Nat.le_of_ble_eq_true rfl) (tX0_with x1 x3 v8 p5.2 rx1 rx3 r8 e9) (fun r9 z9 => ?_)
        refine j_lstore_n (i := 3) (lv' := [(0, vr x0), (1, vi x1), (2, vi x2), (3, vl p9.1), (5, vi x5), (6, vi x6)]) (pc' := 49) dX3_costOf_48 rfl rfl (by decide) [1, 2, 3, 0, 4, 5] rfl ?_
        refine j_iload (pc' := 51) dX3_costOf_49 rfl 5 rfl ?_
        refine j_iconst (pc' := 52) dX3_costOf_51 rfl ?_
        refine j_iadd (pc' := 53) dX3_costOf_52 rfl ?_
        obtain ⟨u10, e10, H⟩ := bs H
        have r10 := c32_R e10
        refine j_istore (lv' := [(0, vr x0), (1, vi x1), (2, vi x2), (3, vl p9.1), (5, vi (x6 + 1)), (6, vi x6)]) (pc' := 55) dX3_costOf_53 rfl (by decide) [1, 2, 3, 4, 0, 5] rfl ?_
        exact tX3_costOf_55 _ ih x0 x1 x2 p9.1 (x6 + 1) x6 p9.2 rx1 rx2 r9 r10 rx6 H
noncomputable def fX3_costOf (a0 : Nat) (a1 : Int) (a2 : Int) (h : Hp) : Option (Int × Hp) :=
  fX3_costOf_8 FU a0 a1 a2 0 0 0 h
theorem tX3_costOf {L : Nat} {xs : Nat → Int32} {l : Launch} {res : Int × Hp} (a0 : Nat) (a1 : Int) (a2 : Int) (h : Hp) (ra1 : R32 a1) (ra2 : R32 a2) (H : fX3_costOf a0 a1 a2 h = some res) : J L xs l RX3 cX3_costOf 7 false 3 (QL res) 0 0 0 (alv 0 [vr a0, vi a1, vi a2]) [] h := by
  unfold fX3_costOf at H
  show J L xs l RX3 cX3_costOf 7 false 3 (QL res) 0 0 0 [(0, vr a0), (1, vi a1), (2, vi a2)] [] h
  refine j_lconst (z := 0) (pc' := 1) dX3_costOf_0 rfl rfl ?_
  refine j_lstore_n (i := 3) (lv' := [(0, vr a0), (1, vi a1), (2, vi a2), (3, vl 0)]) (pc' := 2) dX3_costOf_1 rfl rfl (by decide) [1, 2, 3, 0] rfl ?_
  refine j_iconst (pc' := 3) dX3_costOf_2 rfl ?_
  refine j_istore (lv' := [(0, vr a0), (1, vi a1), (2, vi a2), (3, vl 0), (5, vi 0)]) (pc' := 5) dX3_costOf_3 rfl (by decide) [1, 2, 3, 4, 0] rfl ?_
  refine j_iconst (pc' := 6) dX3_costOf_5 rfl ?_
  refine j_istore (lv' := [(0, vr a0), (1, vi a1), (2, vi a2), (3, vl 0), (5, vi 0), (6, vi 0)]) (pc' := 8) dX3_costOf_6 rfl (by decide) [1, 2, 3, 4, 5, 0] rfl ?_
  exact tX3_costOf_8   FU a0 a1 a2 0 0 0 h ra1 ra2 ⟨by decide, by decide⟩ ⟨by decide, by decide⟩ ⟨by decide, by decide⟩ H
-- X3_partBy
noncomputable def fX3_partBy_53 (x0 : Nat) (h : Hp) : Option (Hp) :=
  (getR h 2 x0 2).bind fun v1 => (cob h 5 v1).bind fun _ => (fX6_renumber v1 h).bind fun h3 => some h3
theorem tX3_partBy_53 {L : Nat} {xs : Nat → Int32} {l : Launch} {res : Hp} (x0 : Nat) (h : Hp)  (H : fX3_partBy_53 x0 h = some res) : J L xs l RX3 cX3_partBy 4 false 3 (QV res) 0 0 53 [(0, vr x0)] [] h := by
  unfold fX3_partBy_53 at H
  refine j_aload_n (i := 0) (pc' := 54) dX3_partBy_53 rfl rfl 0 rfl ?_
  obtain ⟨v1, e1, H⟩ := bs H
  refine j_getR (pc' := 57) dX3_partBy_54 rfl fl_X3_22 e1 (fun r1 => ?_)
  obtain ⟨u2, e2, H⟩ := bs H
  obtain ⟨h3, e3, H⟩ := bs H
  refine j_cVv (y := yX6_renumber) (dY := 2) (vs := []) (st := []) (q := v1) (pc' := 60) dX3_partBy_57 rfl ymX6_renumber yvX6_renumber ml_X3_109 (by decide) rfl (Nat.le_of_ble_eq_true rfl) (Nat.le_of_ble_eq_true rfl) e2 (tX6_renumber v1 h e3) (fun z3 => ?_)
  obtain rfl := Option.some.inj H
  exact j_vret dX3_partBy_60 ⟨rfl, rfl⟩
noncomputable def fX3_partBy_45 (k4 : Nat → Int → Int → Int → Hp → Option (Hp)) (x0 : Nat) (x1 : Int) (x3 : Int) (s0 : Int) (s1 : Int) (h : Hp) : Option (Hp) :=
  (c32 (s1 + s0)).bind fun _ => (c32 (x3 + 1)).bind fun _ => k4 x0 x1 (s1 + s0) (x3 + 1) h
theorem tX3_partBy_45 {L : Nat} {xs : Nat → Int32} {l : Launch} {res : Hp} (k4 : Nat → Int → Int → Int → Hp → Option (Hp)) (hk4 : ∀ (x0 : Nat) (x1 : Int) (x2 : Int) (x3 : Int) (h : Hp), R32 x1 → R32 x2 → R32 x3 → k4 x0 x1 x2 x3 h = some res → J L xs l RX3 cX3_partBy 4 false 3 (QV res) 0 0 4 [(0, vr x0), (1, vi x1), (2, vi x2), (3, vi x3)] [] h) (x0 : Nat) (x1 : Int) (x3 : Int) (s0 : Int) (s1 : Int) (h : Hp) (rx1 : R32 x1) (rx3 : R32 x3) (rs0 : R32 s0) (rs1 : R32 s1) (H : fX3_partBy_45 k4 x0 x1 x3 s0 s1 h = some res) : J L xs l RX3 cX3_partBy 4 false 3 (QV res) 0 0 45 [(0, vr x0), (1, vi x1), (3, vi x3)] [vi s0, vi s1] h := by
  unfold fX3_partBy_45 at H
  refine j_iadd (pc' := 46) dX3_partBy_45 rfl ?_
  obtain ⟨u1, e1, H⟩ := bs H
  have r1 := c32_R e1
  refine j_istore_n (i := 2) (lv' := [(0, vr x0), (1, vi x1), (2, vi (s1 + s0)), (3, vi x3)]) (pc' := 47) dX3_partBy_46 rfl rfl (by decide) [1, 2, 0, 3] rfl ?_
  obtain ⟨u2, e2, H⟩ := bs H
  have r2 := c32_R e2
  refine j_iinc (k0 := 3) (lv' := [(0, vr x0), (1, vi x1), (2, vi (s1 + s0)), (3, vi (x3 + 1))]) (pc' := 50) dX3_partBy_47 rfl rfl (by decide) [1, 2, 3, 0] rfl ?_
  refine j_goto (tgt := 4) dX3_partBy_50 (by decide) ?_
  exact hk4 x0 x1 (s1 + s0) (x3 + 1) h rx1 r1 r2 H
noncomputable def fX3_partBy_4 : Nat → Nat → Int → Int → Int → Hp → Option (Hp)
  | 0, _, _, _, _, _ => none
  | n + 1, x0, x1, x2, x3, h => (getR h 2 x0 3).bind fun v1 => (getI h 6 v1 0).bind fun v2 => if v2 ≤ x3 then (fX3_partBy_53 x0 h) else ((getR h 2 x0 2).bind fun v4 => (getR h 5 v4 2).bind fun v5 => (getR h 2 x0 0).bind fun v6 => (ald h 0 v6 x3).bind fun v7 => (ast h 0 v5 v7 x2).bind fun h8 => (cob h8 2 x0).bind fun _ => (fX3_endsAt x0 x1 x3 h8).bind fun p10 => if p10.1 = 0 then (fX3_partBy_45 (fX3_partBy_4 n) x0 x1 x3 0 x2 p10.2) else (fX3_partBy_45 (fX3_partBy_4 n) x0 x1 x3 1 x2 p10.2))
theorem tX3_partBy_4 {L : Nat} {xs : Nat → Int32} {l : Launch} {res : Hp} : ∀ (n : Nat) (x0 : Nat) (x1 : Int) (x2 : Int) (x3 : Int) (h : Hp), R32 x1 → R32 x2 → R32 x3 → fX3_partBy_4 n x0 x1 x2 x3 h = some res → J L xs l RX3 cX3_partBy 4 false 3 (QV res) 0 0 4 [(0, vr x0), (1, vi x1), (2, vi x2), (3, vi x3)] [] h := by
  intro n
  induction n with
  | zero => intro x0 x1 x2 x3 h rx1 rx2 rx3 H; cases H
  | succ n ih =>
    intro x0 x1 x2 x3 h rx1 rx2 rx3 H
    rw [fX3_partBy_4] at H
    refine j_iload_n (i := 3) (pc' := 5) dX3_partBy_4 rfl rfl 3 rfl ?_
    refine j_aload_n (i := 0) (pc' := 6) dX3_partBy_5 rfl rfl 0 rfl ?_
    obtain ⟨v1, e1, H⟩ := bs H
    refine j_getR (pc' := 9) dX3_partBy_6 rfl fl_X3_29 e1 (fun r1 => ?_)
    obtain ⟨v2, e2, H⟩ := bs H
    refine j_getI (pc' := 12) dX3_partBy_9 rfl fl_X3_44 e2 (fun r2 => ?_)
    refine j_icmp_ge (tgt := 53) (pc' := 15) dX3_partBy_12 (by decide) rfl rx3 r2 (fun c3 => ?_) (fun c3 => ?_)
    · rw [if_pos c3] at H
      refine j_sub (lv' := [(0, vr x0)]) [0] rfl ?_
      exact tX3_partBy_53   x0 h  H
    · rw [if_neg c3] at H
      refine j_aload_n (i := 0) (pc' := 16) dX3_partBy_15 rfl rfl 0 rfl ?_
      obtain ⟨v4, e4, H⟩ := bs H
      refine j_getR (pc' := 19) dX3_partBy_16 rfl fl_X3_22 e4 (fun r4 => ?_)
      obtain ⟨v5, e5, H⟩ := bs H
      refine j_getR (pc' := 22) dX3_partBy_19 rfl fl_X3_106 e5 (fun r5 => ?_)
      refine j_aload_n (i := 0) (pc' := 23) dX3_partBy_22 rfl rfl 0 rfl ?_
      obtain ⟨v6, e6, H⟩ := bs H
      refine j_getR (pc' := 26) dX3_partBy_23 rfl fl_X3_9 e6 (fun r6 => ?_)
      refine j_iload_n (i := 3) (pc' := 27) dX3_partBy_26 rfl rfl 3 rfl ?_
      obtain ⟨v7, e7, H⟩ := bs H
      refine j_iald (pc' := 28) dX3_partBy_27 rfl e7 (fun r7 => ?_)
      refine j_iload_n (i := 2) (pc' := 29) dX3_partBy_28 rfl rfl 2 rfl ?_
      obtain ⟨h8, e8, H⟩ := bs H
      refine j_iast (pc' := 30) dX3_partBy_29 rfl rx2 e8 ?_
      refine j_iload_n (i := 2) (pc' := 31) dX3_partBy_30 rfl rfl 2 rfl ?_
      refine j_aload_n (i := 0) (pc' := 32) dX3_partBy_31 rfl rfl 0 rfl ?_
      refine j_iload_n (i := 1) (pc' := 33) dX3_partBy_32 rfl rfl 1 rfl ?_
      refine j_iload_n (i := 3) (pc' := 34) dX3_partBy_33 rfl rfl 3 rfl ?_
      obtain ⟨u9, e9, H⟩ := bs H
      obtain ⟨p10, e10, H⟩ := bs H
      refine j_cVb (y := yX3_endsAt) (dY := 2) (vs := [vi x1, vi x3]) (st := [vi x2]) (q := x0) (pc' := 37) dX3_partBy_34 rfl ymX3_endsAt yvX3_endsAt ml_X3_99 (by decide) rfl (Nat.le_of_ble_eq_true rfl) (Nat.le_of_ble_eq_true rfl) e9 (tX3_endsAt x0 x1 x3 h8 rx1 rx3 e10) (fun r10 b10 z10 => ?_)
      refine j_if_eq (tgt := 44) (pc' := 40) dX3_partBy_37 (by decide) rfl r10 (fun c11 => ?_) (fun c11 => ?_)
      · rw [if_pos c11] at H
        refine j_iconst (pc' := 45) dX3_partBy_44 rfl ?_
        refine j_sub (lv' := [(0, vr x0), (1, vi x1), (3, vi x3)]) [0, 1, 3] rfl ?_
        exact tX3_partBy_45 _ ih x0 x1 x3 0 x2 p10.2 rx1 rx3 ⟨by decide, by decide⟩ rx2 H
      · rw [if_neg c11] at H
        refine j_iconst (pc' := 41) dX3_partBy_40 rfl ?_
        refine j_goto (tgt := 45) dX3_partBy_41 (by decide) ?_
        refine j_sub (lv' := [(0, vr x0), (1, vi x1), (3, vi x3)]) [0, 1, 3] rfl ?_
        exact tX3_partBy_45 _ ih x0 x1 x3 1 x2 p10.2 rx1 rx3 ⟨by decide, by decide⟩ rx2 H
noncomputable def fX3_partBy (a0 : Nat) (a1 : Int) (h : Hp) : Option (Hp) :=
  fX3_partBy_4 FU a0 a1 0 0 h
theorem tX3_partBy {L : Nat} {xs : Nat → Int32} {l : Launch} {res : Hp} (a0 : Nat) (a1 : Int) (h : Hp) (ra1 : R32 a1) (H : fX3_partBy a0 a1 h = some res) : J L xs l RX3 cX3_partBy 4 false 3 (QV res) 0 0 0 (alv 0 [vr a0, vi a1]) [] h := by
  unfold fX3_partBy at H
  show J L xs l RX3 cX3_partBy 4 false 3 (QV res) 0 0 0 [(0, vr a0), (1, vi a1)] [] h
  refine j_iconst (pc' := 1) dX3_partBy_0 rfl ?_
  refine j_istore_n (i := 2) (lv' := [(0, vr a0), (1, vi a1), (2, vi 0)]) (pc' := 2) dX3_partBy_1 rfl rfl (by decide) [1, 2, 0] rfl ?_
  refine j_iconst (pc' := 3) dX3_partBy_2 rfl ?_
  refine j_istore_n (i := 3) (lv' := [(0, vr a0), (1, vi a1), (2, vi 0), (3, vi 0)]) (pc' := 4) dX3_partBy_3 rfl rfl (by decide) [1, 2, 3, 0] rfl ?_
  exact tX3_partBy_4   FU a0 a1 0 0 h ra1 ⟨by decide, by decide⟩ ⟨by decide, by decide⟩ H
-- X6_standsAhead
noncomputable def fX6_standsAhead_52  (h : Hp) : Option (Int × Hp) :=
  some (0, h)
theorem tX6_standsAhead_52 {L : Nat} {xs : Nat → Int32} {l : Launch} {res : Int × Hp}  (h : Hp)  (H : fX6_standsAhead_52  h = some res) : J L xs l RX6 cX6_standsAhead 3 false 1 (QB res) 0 0 52 [] [] h := by
  unfold fX6_standsAhead_52 at H
  refine j_iconst (pc' := 53) dX6_standsAhead_52 rfl ?_
  obtain rfl := Option.some.inj H
  exact j_iret dX6_standsAhead_53 ⟨by decide, by decide⟩ ⟨rfl, rfl, Or.inl rfl⟩
noncomputable def fX6_standsAhead_45 (s0 : Int) (h : Hp) : Option (Int × Hp) :=
  (cbo s0).bind fun _ => some (s0, h)
theorem tX6_standsAhead_45 {L : Nat} {xs : Nat → Int32} {l : Launch} {res : Int × Hp} (s0 : Int) (h : Hp) (rs0 : R32 s0) (H : fX6_standsAhead_45 s0 h = some res) : J L xs l RX6 cX6_standsAhead 3 false 1 (QB res) 0 0 45 [] [vi s0] h := by
  unfold fX6_standsAhead_45 at H
  obtain ⟨u1, e1, H⟩ := bs H
  obtain rfl := Option.some.inj H
  exact j_iret dX6_standsAhead_45 rs0 ⟨rfl, rfl, cbo_R e1⟩
noncomputable def fX6_standsAhead_25 (x0 : Nat) (x1 : Nat) (x2 : Int) (h : Hp) : Option (Int × Hp) :=
  (getR h 5 x0 2).bind fun v1 => (ald h 0 v1 x2).bind fun v2 => (getR h 5 x1 2).bind fun v3 => (ald h 0 v3 x2).bind fun v4 => if v4 ≤ v2 then (fX6_standsAhead_45 0 h) else (fX6_standsAhead_45 1 h)
theorem tX6_standsAhead_25 {L : Nat} {xs : Nat → Int32} {l : Launch} {res : Int × Hp} (x0 : Nat) (x1 : Nat) (x2 : Int) (h : Hp) (rx2 : R32 x2) (H : fX6_standsAhead_25 x0 x1 x2 h = some res) : J L xs l RX6 cX6_standsAhead 3 false 1 (QB res) 0 0 25 [(0, vr x0), (1, vr x1), (2, vi x2)] [] h := by
  unfold fX6_standsAhead_25 at H
  refine j_aload_n (i := 0) (pc' := 26) dX6_standsAhead_25 rfl rfl 0 rfl ?_
  obtain ⟨v1, e1, H⟩ := bs H
  refine j_getR (pc' := 29) dX6_standsAhead_26 rfl fl_X6_18 e1 (fun r1 => ?_)
  refine j_iload_n (i := 2) (pc' := 30) dX6_standsAhead_29 rfl rfl 2 rfl ?_
  obtain ⟨v2, e2, H⟩ := bs H
  refine j_iald (pc' := 31) dX6_standsAhead_30 rfl e2 (fun r2 => ?_)
  refine j_aload_n (i := 1) (pc' := 32) dX6_standsAhead_31 rfl rfl 1 rfl ?_
  obtain ⟨v3, e3, H⟩ := bs H
  refine j_getR (pc' := 35) dX6_standsAhead_32 rfl fl_X6_18 e3 (fun r3 => ?_)
  refine j_iload_n (i := 2) (pc' := 36) dX6_standsAhead_35 rfl rfl 2 rfl ?_
  obtain ⟨v4, e4, H⟩ := bs H
  refine j_iald (pc' := 37) dX6_standsAhead_36 rfl e4 (fun r4 => ?_)
  refine j_icmp_ge (tgt := 44) (pc' := 40) dX6_standsAhead_37 (by decide) rfl r2 r4 (fun c5 => ?_) (fun c5 => ?_)
  · rw [if_pos c5] at H
    refine j_iconst (pc' := 45) dX6_standsAhead_44 rfl ?_
    refine j_sub (lv' := []) [] rfl ?_
    exact tX6_standsAhead_45   0 h ⟨by decide, by decide⟩ H
  · rw [if_neg c5] at H
    refine j_iconst (pc' := 41) dX6_standsAhead_40 rfl ?_
    refine j_goto (tgt := 45) dX6_standsAhead_41 (by decide) ?_
    refine j_sub (lv' := []) [] rfl ?_
    exact tX6_standsAhead_45   1 h ⟨by decide, by decide⟩ H
noncomputable def fX6_standsAhead_2 : Nat → Nat → Nat → Int → Hp → Option (Int × Hp)
  | 0, _, _, _, _ => none
  | n + 1, x0, x1, x2, h => (getI h 5 x0 0).bind fun v1 => if v1 ≤ x2 then (fX6_standsAhead_52 h) else ((getR h 5 x0 2).bind fun v3 => (ald h 0 v3 x2).bind fun v4 => (getR h 5 x1 2).bind fun v5 => (ald h 0 v5 x2).bind fun v6 => if v4 = v6 then ((c32 (x2 + 1)).bind fun _ => fX6_standsAhead_2 n x0 x1 (x2 + 1) h) else (fX6_standsAhead_25 x0 x1 x2 h))
theorem tX6_standsAhead_2 {L : Nat} {xs : Nat → Int32} {l : Launch} {res : Int × Hp} : ∀ (n : Nat) (x0 : Nat) (x1 : Nat) (x2 : Int) (h : Hp), R32 x2 → fX6_standsAhead_2 n x0 x1 x2 h = some res → J L xs l RX6 cX6_standsAhead 3 false 1 (QB res) 0 0 2 [(0, vr x0), (1, vr x1), (2, vi x2)] [] h := by
  intro n
  induction n with
  | zero => intro x0 x1 x2 h rx2 H; cases H
  | succ n ih =>
    intro x0 x1 x2 h rx2 H
    rw [fX6_standsAhead_2] at H
    refine j_iload_n (i := 2) (pc' := 3) dX6_standsAhead_2 rfl rfl 2 rfl ?_
    refine j_aload_n (i := 0) (pc' := 4) dX6_standsAhead_3 rfl rfl 0 rfl ?_
    obtain ⟨v1, e1, H⟩ := bs H
    refine j_getI (pc' := 7) dX6_standsAhead_4 rfl fl_X6_9 e1 (fun r1 => ?_)
    refine j_icmp_ge (tgt := 52) (pc' := 10) dX6_standsAhead_7 (by decide) rfl rx2 r1 (fun c2 => ?_) (fun c2 => ?_)
    · rw [if_pos c2] at H
      refine j_sub (lv' := []) [] rfl ?_
      exact tX6_standsAhead_52   h  H
    · rw [if_neg c2] at H
      refine j_aload_n (i := 0) (pc' := 11) dX6_standsAhead_10 rfl rfl 0 rfl ?_
      obtain ⟨v3, e3, H⟩ := bs H
      refine j_getR (pc' := 14) dX6_standsAhead_11 rfl fl_X6_18 e3 (fun r3 => ?_)
      refine j_iload_n (i := 2) (pc' := 15) dX6_standsAhead_14 rfl rfl 2 rfl ?_
      obtain ⟨v4, e4, H⟩ := bs H
      refine j_iald (pc' := 16) dX6_standsAhead_15 rfl e4 (fun r4 => ?_)
      refine j_aload_n (i := 1) (pc' := 17) dX6_standsAhead_16 rfl rfl 1 rfl ?_
      obtain ⟨v5, e5, H⟩ := bs H
      refine j_getR (pc' := 20) dX6_standsAhead_17 rfl fl_X6_18 e5 (fun r5 => ?_)
      refine j_iload_n (i := 2) (pc' := 21) dX6_standsAhead_20 rfl rfl 2 rfl ?_
      obtain ⟨v6, e6, H⟩ := bs H
      refine j_iald (pc' := 22) dX6_standsAhead_21 rfl e6 (fun r6 => ?_)
      refine j_icmp_eq (tgt := 46) (pc' := 25) dX6_standsAhead_22 (by decide) rfl r4 r6 (fun c7 => ?_) (fun c7 => ?_)
      · rw [if_pos c7] at H
        obtain ⟨u8, e8, H⟩ := bs H
        have r8 := c32_R e8
        refine j_iinc (k0 := 2) (lv' := [(0, vr x0), (1, vr x1), (2, vi (x2 + 1))]) (pc' := 49) dX6_standsAhead_46 rfl rfl (by decide) [1, 2, 0] rfl ?_
        refine j_goto (tgt := 2) dX6_standsAhead_49 (by decide) ?_
        exact ih x0 x1 (x2 + 1) h r8 H
      · rw [if_neg c7] at H
        exact tX6_standsAhead_25   x0 x1 x2 h rx2 H
noncomputable def fX6_standsAhead (a0 : Nat) (a1 : Nat) (h : Hp) : Option (Int × Hp) :=
  fX6_standsAhead_2 FU a0 a1 0 h
theorem tX6_standsAhead {L : Nat} {xs : Nat → Int32} {l : Launch} {res : Int × Hp} (a0 : Nat) (a1 : Nat) (h : Hp)  (H : fX6_standsAhead a0 a1 h = some res) : J L xs l RX6 cX6_standsAhead 3 false 1 (QB res) 0 0 0 (alv 0 [vr a0, vr a1]) [] h := by
  unfold fX6_standsAhead at H
  show J L xs l RX6 cX6_standsAhead 3 false 1 (QB res) 0 0 0 [(0, vr a0), (1, vr a1)] [] h
  refine j_iconst (pc' := 1) dX6_standsAhead_0 rfl ?_
  refine j_istore_n (i := 2) (lv' := [(0, vr a0), (1, vr a1), (2, vi 0)]) (pc' := 2) dX6_standsAhead_1 rfl rfl (by decide) [1, 2, 0] rfl ?_
  exact tX6_standsAhead_2   FU a0 a1 0 h ⟨by decide, by decide⟩ H
-- X3_run
noncomputable def fX3_run_130 (x4 : Int) (h : Hp) : Option (Int × Hp) :=
  some (x4, h)
theorem tX3_run_130 {L : Nat} {xs : Nat → Int32} {l : Launch} {res : Int × Hp} (x4 : Int) (h : Hp) (rx4 : R64 x4) (H : fX3_run_130 x4 h = some res) : J L xs l RX3 cX3_run 9 false 6 (QL res) 0 0 130 [(4, vl x4)] [] h := by
  unfold fX3_run_130 at H
  refine j_lload (pc' := 132) dX3_run_130 rfl 0 rfl ?_
  obtain rfl := Option.some.inj H
  exact j_lret dX3_run_132 rx4 ⟨rfl, rfl⟩
noncomputable def fX3_run_124 (k34 : Nat → Nat → Int → Int → Int → Int → Hp → Option (Int × Hp)) (x0 : Nat) (x1 : Nat) (x2 : Int) (x3 : Int) (x4 : Int) (x6 : Int) (h : Hp) : Option (Int × Hp) :=
  (c32 (x6 + 1)).bind fun _ => k34 x0 x1 x2 x3 x4 (x6 + 1) h
theorem tX3_run_124 {L : Nat} {xs : Nat → Int32} {l : Launch} {res : Int × Hp} (k34 : Nat → Nat → Int → Int → Int → Int → Hp → Option (Int × Hp)) (hk34 : ∀ (x0 : Nat) (x1 : Nat) (x2 : Int) (x3 : Int) (x4 : Int) (x6 : Int) (h : Hp), R32 x2 → R32 x3 → R64 x4 → R32 x6 → k34 x0 x1 x2 x3 x4 x6 h = some res → J L xs l RX3 cX3_run 9 false 6 (QL res) 0 0 34 [(0, vr x0), (1, vr x1), (2, vi x2), (3, vi x3), (4, vl x4), (6, vi x6)] [] h) (x0 : Nat) (x1 : Nat) (x2 : Int) (x3 : Int) (x4 : Int) (x6 : Int) (h : Hp) (rx2 : R32 x2) (rx3 : R32 x3) (rx4 : R64 x4) (rx6 : R32 x6) (H : fX3_run_124 k34 x0 x1 x2 x3 x4 x6 h = some res) : J L xs l RX3 cX3_run 9 false 6 (QL res) 0 0 124 [(0, vr x0), (1, vr x1), (2, vi x2), (3, vi x3), (4, vl x4), (6, vi x6)] [] h := by
  unfold fX3_run_124 at H
  obtain ⟨u1, e1, H⟩ := bs H
  have r1 := c32_R e1
  refine j_iinc (k0 := 5) (lv' := [(0, vr x0), (1, vr x1), (2, vi x2), (3, vi x3), (4, vl x4), (6, vi (x6 + 1))]) (pc' := 127) dX3_run_124 rfl rfl (by decide) [1, 2, 3, 4, 5, 0] rfl ?_
  refine j_goto (tgt := 34) dX3_run_127 (by decide) ?_
  exact hk34 x0 x1 x2 x3 x4 (x6 + 1) h rx2 rx3 rx4 r1 H
noncomputable def fX3_run_109 (k34 : Nat → Nat → Int → Int → Int → Int → Hp → Option (Int × Hp)) (x0 : Nat) (x1 : Nat) (x2 : Int) (x3 : Int) (x6 : Int) (x7 : Int) (h : Hp) : Option (Int × Hp) :=
  (getR h 6 x1 5).bind fun v1 => (getR h 2 x0 2).bind fun v2 => (cob h 5 v1).bind fun _ => (fX6_copyFrom v1 v2 h).bind fun h4 => fX3_run_124 k34 x0 x1 x2 x3 x7 x6 h4
theorem tX3_run_109 {L : Nat} {xs : Nat → Int32} {l : Launch} {res : Int × Hp} (k34 : Nat → Nat → Int → Int → Int → Int → Hp → Option (Int × Hp)) (hk34 : ∀ (x0 : Nat) (x1 : Nat) (x2 : Int) (x3 : Int) (x4 : Int) (x6 : Int) (h : Hp), R32 x2 → R32 x3 → R64 x4 → R32 x6 → k34 x0 x1 x2 x3 x4 x6 h = some res → J L xs l RX3 cX3_run 9 false 6 (QL res) 0 0 34 [(0, vr x0), (1, vr x1), (2, vi x2), (3, vi x3), (4, vl x4), (6, vi x6)] [] h) (x0 : Nat) (x1 : Nat) (x2 : Int) (x3 : Int) (x6 : Int) (x7 : Int) (h : Hp) (rx2 : R32 x2) (rx3 : R32 x3) (rx6 : R32 x6) (rx7 : R64 x7) (H : fX3_run_109 k34 x0 x1 x2 x3 x6 x7 h = some res) : J L xs l RX3 cX3_run 9 false 6 (QL res) 0 0 109 [(0, vr x0), (1, vr x1), (2, vi x2), (3, vi x3), (6, vi x6), (7, vl x7)] [] h := by
  unfold fX3_run_109 at H
  refine j_lload (pc' := 111) dX3_run_109 rfl 5 rfl ?_
  refine j_lstore (lv' := [(0, vr x0), (1, vr x1), (2, vi x2), (3, vi x3), (4, vl x7), (6, vi x6), (7, vl x7)]) (pc' := 113) dX3_run_111 rfl (by decide) [1, 2, 3, 4, 0, 5, 6] rfl ?_
  refine j_aload_n (i := 1) (pc' := 114) dX3_run_113 rfl rfl 1 rfl ?_
  obtain ⟨v1, e1, H⟩ := bs H
  refine j_getR (pc' := 117) dX3_run_114 rfl fl_X3_66 e1 (fun r1 => ?_)
  refine j_aload_n (i := 0) (pc' := 118) dX3_run_117 rfl rfl 0 rfl ?_
  obtain ⟨v2, e2, H⟩ := bs H
  refine j_getR (pc' := 121) dX3_run_118 rfl fl_X3_22 e2 (fun r2 => ?_)
  obtain ⟨u3, e3, H⟩ := bs H
  obtain ⟨h4, e4, H⟩ := bs H
  refine j_cVv (y := yX6_copyFrom) (dY := 1) (vs := [vr v2]) (st := []) (q := v1) (pc' := 124) dX3_run_121 rfl ymX6_copyFrom yvX6_copyFrom ml_X3_73 (by decide) rfl (Nat.le_of_ble_eq_true rfl) (Nat.le_of_ble_eq_true rfl) e3 (tX6_copyFrom v1 v2 h e4) (fun z4 => ?_)
  refine j_sub (lv' := [(0, vr x0), (1, vr x1), (2, vi x2), (3, vi x3), (4, vl x7), (6, vi x6)]) [0, 1, 2, 3, 4, 5] rfl ?_
  exact tX3_run_124 _ hk34 x0 x1 x2 x3 x7 x6 h4 rx2 rx3 rx7 rx6 H
noncomputable def fX3_run_34 : Nat → Nat → Nat → Int → Int → Int → Int → Hp → Option (Int × Hp)
  | 0, _, _, _, _, _, _, _ => none
  | n + 1, x0, x1, x2, x3, x4, x6, h => (getI h 6 x1 0).bind fun v1 => if (bShl 1 (v1 - 1)) ≤ x6 then (fX3_run_130 x4 h) else ((fJ6_bitCount_0f7a4 x6 h).bind fun p3 => (c32 (x3 - 1)).bind fun _ => if p3.1 = (x3 - 1) then ((cob p3.2 2 x0).bind fun _ => (fX3_costOf x0 x2 x6 p3.2).bind fun p7 => if (lCmp p7.1 x4) ≤ 0 then ((cob p7.2 2 x0).bind fun _ => (fX3_partBy x0 x6 p7.2).bind fun h10 => if (lCmp p7.1 x4) < 0 then (fX3_run_109 (fX3_run_34 n) x0 x1 x2 x3 x6 p7.1 h10) else ((getR h10 2 x0 2).bind fun v12 => (getR h10 6 x1 5).bind fun v13 => (cob h10 5 v12).bind fun _ => (fX6_standsAhead v12 v13 h10).bind fun p15 => if p15.1 = 0 then (fX3_run_124 (fX3_run_34 n) x0 x1 x2 x3 x4 x6 p15.2) else (fX3_run_109 (fX3_run_34 n) x0 x1 x2 x3 x6 p7.1 p15.2))) else (fX3_run_124 (fX3_run_34 n) x0 x1 x2 x3 x4 x6 p7.2)) else (fX3_run_124 (fX3_run_34 n) x0 x1 x2 x3 x4 x6 p3.2))
theorem tX3_run_34 {L : Nat} {xs : Nat → Int32} {l : Launch} {res : Int × Hp} : ∀ (n : Nat) (x0 : Nat) (x1 : Nat) (x2 : Int) (x3 : Int) (x4 : Int) (x6 : Int) (h : Hp), R32 x2 → R32 x3 → R64 x4 → R32 x6 → fX3_run_34 n x0 x1 x2 x3 x4 x6 h = some res → J L xs l RX3 cX3_run 9 false 6 (QL res) 0 0 34 [(0, vr x0), (1, vr x1), (2, vi x2), (3, vi x3), (4, vl x4), (6, vi x6)] [] h := by
  intro n
  induction n with
  | zero => intro x0 x1 x2 x3 x4 x6 h rx2 rx3 rx4 rx6 H; cases H
  | succ n ih =>
    intro x0 x1 x2 x3 x4 x6 h rx2 rx3 rx4 rx6 H
    rw [fX3_run_34] at H
    refine j_iload (pc' := 36) dX3_run_34 rfl 5 rfl ?_
    refine j_iconst (pc' := 37) dX3_run_36 rfl ?_
    refine j_aload_n (i := 1) (pc' := 38) dX3_run_37 rfl rfl 1 rfl ?_
    obtain ⟨v1, e1, H⟩ := bs H
    refine j_getI (pc' := 41) dX3_run_38 rfl fl_X3_44 e1 (fun r1 => ?_)
    refine j_iconst (pc' := 42) dX3_run_41 rfl ?_
    refine j_isub (pc' := 43) dX3_run_42 rfl ?_
    refine j_ishl (pc' := 44) dX3_run_43 rfl ?_
    refine j_icmp_ge (tgt := 130) (pc' := 47) dX3_run_44 (by decide) rfl rx6 (R32_to _) (fun c2 => ?_) (fun c2 => ?_)
    · rw [if_pos c2] at H
      refine j_sub (lv' := [(4, vl x4)]) [4] rfl ?_
      exact tX3_run_130   x4 h rx4 H
    · rw [if_neg c2] at H
      refine j_iload (pc' := 49) dX3_run_47 rfl 5 rfl ?_
      obtain ⟨p3, e3, H⟩ := bs H
      refine j_cSi (y := yJ6_bitCount_0f7a4) (dY := 1) (vs := [vi x6]) (st := []) (pc' := 52) dX3_run_49 rfl ymJ6_bitCount_0f7a4 ysJ6_bitCount_0f7a4 ml_X3_53 (by decide) rfl (Nat.le_of_ble_eq_true rfl) (Nat.le_of_ble_eq_true rfl) (tJ6_bitCount_0f7a4 x6 h rx6 e3) (fun r3 z3 => ?_)
      refine j_iload_n (i := 3) (pc' := 53) dX3_run_52 rfl rfl 3 rfl ?_
      refine j_iconst (pc' := 54) dX3_run_53 rfl ?_
      refine j_isub (pc' := 55) dX3_run_54 rfl ?_
      obtain ⟨u4, e4, H⟩ := bs H
      have r4 := c32_R e4
      refine j_icmp_eq (tgt := 61) (pc' := 58) dX3_run_55 (by decide) rfl r3 r4 (fun c5 => ?_) (fun c5 => ?_)
      · rw [if_pos c5] at H
        refine j_aload_n (i := 0) (pc' := 62) dX3_run_61 rfl rfl 0 rfl ?_
        refine j_iload_n (i := 2) (pc' := 63) dX3_run_62 rfl rfl 2 rfl ?_
        refine j_iload (pc' := 65) dX3_run_63 rfl 5 rfl ?_
        obtain ⟨u6, e6, H⟩ := bs H
        obtain ⟨p7, e7, H⟩ := bs H
        refine j_cVl (y := yX3_costOf) (dY := 3) (vs := [vi x2, vi x6]) (st := []) (q := x0) (pc' := 68) dX3_run_65 rfl ymX3_costOf yvX3_costOf ml_X3_59 (by decide) rfl (Nat.le_of_ble_eq_true rfl) (Nat.le_of_ble_eq_true rfl) e6 (tX3_costOf x0 x2 x6 p3.2 rx2 rx6 e7) (fun r7 z7 => ?_)
        refine j_lstore (lv' := [(0, vr x0), (1, vr x1), (2, vi x2), (3, vi x3), (4, vl x4), (6, vi x6), (7, vl p7.1)]) (pc' := 70) dX3_run_68 rfl (by decide) [1, 2, 3, 4, 5, 6, 0] rfl ?_
        refine j_lload (pc' := 72) dX3_run_70 rfl 6 rfl ?_
        refine j_lload (pc' := 74) dX3_run_72 rfl 4 rfl ?_
        refine j_lcmp (pc' := 75) dX3_run_74 rfl r7 rx4 ?_
        refine j_if_le (tgt := 81) (pc' := 78) dX3_run_75 (by decide) rfl (R32_lcmp _ _) (fun c8 => ?_) (fun c8 => ?_)
        · rw [if_pos c8] at H
          refine j_aload_n (i := 0) (pc' := 82) dX3_run_81 rfl rfl 0 rfl ?_
          refine j_iload (pc' := 84) dX3_run_82 rfl 5 rfl ?_
          obtain ⟨u9, e9, H⟩ := bs H
          obtain ⟨h10, e10, H⟩ := bs H
          refine j_cVv (y := yX3_partBy) (dY := 3) (vs := [vi x6]) (st := []) (q := x0) (pc' := 87) dX3_run_84 rfl ymX3_partBy yvX3_partBy ml_X3_63 (by decide) rfl (Nat.le_of_ble_eq_true rfl) (Nat.le_of_ble_eq_true rfl) e9 (tX3_partBy x0 x6 p7.2 rx6 e10) (fun z10 => ?_)
          refine j_lload (pc' := 89) dX3_run_87 rfl 6 rfl ?_
          refine j_lload (pc' := 91) dX3_run_89 rfl 4 rfl ?_
          refine j_lcmp (pc' := 92) dX3_run_91 rfl r7 rx4 ?_
          refine j_if_lt (tgt := 109) (pc' := 95) dX3_run_92 (by decide) rfl (R32_lcmp _ _) (fun c11 => ?_) (fun c11 => ?_)
          · rw [if_pos c11] at H
            refine j_sub (lv' := [(0, vr x0), (1, vr x1), (2, vi x2), (3, vi x3), (6, vi x6), (7, vl p7.1)]) [0, 1, 2, 3, 5, 6] rfl ?_
            exact tX3_run_109 _ ih x0 x1 x2 x3 x6 p7.1 h10 rx2 rx3 rx6 r7 H
          · rw [if_neg c11] at H
            refine j_aload_n (i := 0) (pc' := 96) dX3_run_95 rfl rfl 0 rfl ?_
            obtain ⟨v12, e12, H⟩ := bs H
            refine j_getR (pc' := 99) dX3_run_96 rfl fl_X3_22 e12 (fun r12 => ?_)
            refine j_aload_n (i := 1) (pc' := 100) dX3_run_99 rfl rfl 1 rfl ?_
            obtain ⟨v13, e13, H⟩ := bs H
            refine j_getR (pc' := 103) dX3_run_100 rfl fl_X3_66 e13 (fun r13 => ?_)
            obtain ⟨u14, e14, H⟩ := bs H
            obtain ⟨p15, e15, H⟩ := bs H
            refine j_cVb (y := yX6_standsAhead) (dY := 1) (vs := [vr v13]) (st := []) (q := v12) (pc' := 106) dX3_run_103 rfl ymX6_standsAhead yvX6_standsAhead ml_X3_69 (by decide) rfl (Nat.le_of_ble_eq_true rfl) (Nat.le_of_ble_eq_true rfl) e14 (tX6_standsAhead v12 v13 h10 e15) (fun r15 b15 z15 => ?_)
            refine j_if_eq (tgt := 124) (pc' := 109) dX3_run_106 (by decide) rfl r15 (fun c16 => ?_) (fun c16 => ?_)
            · rw [if_pos c16] at H
              refine j_sub (lv' := [(0, vr x0), (1, vr x1), (2, vi x2), (3, vi x3), (4, vl x4), (6, vi x6)]) [0, 1, 2, 3, 4, 5] rfl ?_
              exact tX3_run_124 _ ih x0 x1 x2 x3 x4 x6 p15.2 rx2 rx3 rx4 rx6 H
            · rw [if_neg c16] at H
              refine j_sub (lv' := [(0, vr x0), (1, vr x1), (2, vi x2), (3, vi x3), (6, vi x6), (7, vl p7.1)]) [0, 1, 2, 3, 5, 6] rfl ?_
              exact tX3_run_109 _ ih x0 x1 x2 x3 x6 p7.1 p15.2 rx2 rx3 rx6 r7 H
        · rw [if_neg c8] at H
          refine j_goto (tgt := 124) dX3_run_78 (by decide) ?_
          refine j_sub (lv' := [(0, vr x0), (1, vr x1), (2, vi x2), (3, vi x3), (4, vl x4), (6, vi x6)]) [0, 1, 2, 3, 4, 5] rfl ?_
          exact tX3_run_124 _ ih x0 x1 x2 x3 x4 x6 p7.2 rx2 rx3 rx4 rx6 H
      · rw [if_neg c5] at H
        refine j_goto (tgt := 124) dX3_run_58 (by decide) ?_
        exact tX3_run_124 _ ih x0 x1 x2 x3 x4 x6 p3.2 rx2 rx3 rx4 rx6 H
noncomputable def fX3_run (a0 : Nat) (a1 : Nat) (a2 : Int) (a3 : Int) (h : Hp) : Option (Int × Hp) :=
  (cob h 2 a0).bind fun _ => (fX3_flatten a0 a1 h).bind fun h2 => (cob h2 2 a0).bind fun _ => (fX3_sortThings a0 a1 h2).bind fun h4 => (cob h4 2 a0).bind fun _ => (fX3_costAllSpans a0 a2 h4).bind fun h6 => (getR h6 2 a0 2).bind fun v7 => (getI h6 6 a1 0).bind fun v8 => (putV h6 5 v7 0 (vi v8)).bind fun h9 => fX3_run_34 FU a0 a1 a2 a3 9223372036854775807 0 h9
theorem tX3_run {L : Nat} {xs : Nat → Int32} {l : Launch} {res : Int × Hp} (a0 : Nat) (a1 : Nat) (a2 : Int) (a3 : Int) (h : Hp) (ra2 : R32 a2) (ra3 : R32 a3) (H : fX3_run a0 a1 a2 a3 h = some res) : J L xs l RX3 cX3_run 9 false 6 (QL res) 0 0 0 (alv 0 [vr a0, vr a1, vi a2, vi a3]) [] h := by
  unfold fX3_run at H
  show J L xs l RX3 cX3_run 9 false 6 (QL res) 0 0 0 [(0, vr a0), (1, vr a1), (2, vi a2), (3, vi a3)] [] h
  refine j_aload_n (i := 0) (pc' := 1) dX3_run_0 rfl rfl 0 rfl ?_
  refine j_aload_n (i := 1) (pc' := 2) dX3_run_1 rfl rfl 1 rfl ?_
  obtain ⟨u1, e1, H⟩ := bs H
  obtain ⟨h2, e2, H⟩ := bs H
  refine j_cVv (y := yX3_flatten) (dY := 2) (vs := [vr a1]) (st := []) (q := a0) (pc' := 5) dX3_run_2 rfl ymX3_flatten yvX3_flatten ml_X3_33 (by decide) rfl (Nat.le_of_ble_eq_true rfl) (Nat.le_of_ble_eq_true rfl) e1 (tX3_flatten a0 a1 h e2) (fun z2 => ?_)
  refine j_aload_n (i := 0) (pc' := 6) dX3_run_5 rfl rfl 0 rfl ?_
  refine j_aload_n (i := 1) (pc' := 7) dX3_run_6 rfl rfl 1 rfl ?_
  obtain ⟨u3, e3, H⟩ := bs H
  obtain ⟨h4, e4, H⟩ := bs H
  refine j_cVv (y := yX3_sortThings) (dY := 2) (vs := [vr a1]) (st := []) (q := a0) (pc' := 10) dX3_run_7 rfl ymX3_sortThings yvX3_sortThings ml_X3_37 (by decide) rfl (Nat.le_of_ble_eq_true rfl) (Nat.le_of_ble_eq_true rfl) e3 (tX3_sortThings a0 a1 h2 e4) (fun z4 => ?_)
  refine j_aload_n (i := 0) (pc' := 11) dX3_run_10 rfl rfl 0 rfl ?_
  refine j_iload_n (i := 2) (pc' := 12) dX3_run_11 rfl rfl 2 rfl ?_
  obtain ⟨u5, e5, H⟩ := bs H
  obtain ⟨h6, e6, H⟩ := bs H
  refine j_cVv (y := yX3_costAllSpans) (dY := 5) (vs := [vi a2]) (st := []) (q := a0) (pc' := 15) dX3_run_12 rfl ymX3_costAllSpans yvX3_costAllSpans ml_X3_40 (by decide) rfl (Nat.le_of_ble_eq_true rfl) (Nat.le_of_ble_eq_true rfl) e5 (tX3_costAllSpans a0 a2 h4 ra2 e6) (fun z6 => ?_)
  refine j_aload_n (i := 0) (pc' := 16) dX3_run_15 rfl rfl 0 rfl ?_
  obtain ⟨v7, e7, H⟩ := bs H
  refine j_getR (pc' := 19) dX3_run_16 rfl fl_X3_22 e7 (fun r7 => ?_)
  refine j_aload_n (i := 1) (pc' := 20) dX3_run_19 rfl rfl 1 rfl ?_
  obtain ⟨v8, e8, H⟩ := bs H
  refine j_getI (pc' := 23) dX3_run_20 rfl fl_X3_44 e8 (fun r8 => ?_)
  obtain ⟨h9, e9, H⟩ := bs H
  refine j_putV (pc' := 26) dX3_run_23 rfl fp_X3_48 tI r8 e9 ?_
  refine j_ldc2 (z := 9223372036854775807) (pc' := 29) dX3_run_26 rfl kk_X3_51 (by decide +kernel) ?_
  refine j_lstore (lv' := [(0, vr a0), (1, vr a1), (2, vi a2), (3, vi a3), (4, vl 9223372036854775807)]) (pc' := 31) dX3_run_29 rfl (by decide) [1, 2, 3, 4, 0] rfl ?_
  refine j_iconst (pc' := 32) dX3_run_31 rfl ?_
  refine j_istore (lv' := [(0, vr a0), (1, vr a1), (2, vi a2), (3, vi a3), (4, vl 9223372036854775807), (6, vi 0)]) (pc' := 34) dX3_run_32 rfl (by decide) [1, 2, 3, 4, 5, 0] rfl ?_
  exact tX3_run_34   FU a0 a1 a2 a3 9223372036854775807 0 h9 ra2 ra3 ⟨by decide, by decide⟩ ⟨by decide, by decide⟩ H
-- X4_init
noncomputable def fX4_init (a0 : Nat) (h : Hp) : Option (Hp) :=
  (cob h 3 a0).bind fun _ => (crf h a0).bind fun _ => (newO h (arr 0 12 (fun _ => 0))).bind fun p3 => (crf p3.2 p3.1).bind fun _ => (putV p3.2 3 a0 0 (vr p3.1)).bind fun h5 => (crf h5 a0).bind fun _ => (newO h5 (arr 1 12 (fun _ => 0))).bind fun p7 => (crf p7.2 p7.1).bind fun _ => (putV p7.2 3 a0 1 (vr p7.1)).bind fun h9 => (putV h9 3 a0 2 (vl 0)).bind fun h10 => some h10
theorem tX4_init {L : Nat} {xs : Nat → Int32} {l : Launch} {res : Hp} (a0 : Nat) (h : Hp)  (H : fX4_init a0 h = some res) : J L xs l RX4 cX4_init 1 true 1 (QV res) 2 24 0 (alv 0 [vr a0]) [] h := by
  unfold fX4_init at H
  show J L xs l RX4 cX4_init 1 true 1 (QV res) 2 24 0 [(0, vr a0)] [] h
  refine j_aload_n (i := 0) (pc' := 1) dX4_init_0 rfl rfl 0 rfl ?_
  obtain ⟨u1, e1, H⟩ := bs H
  refine j_objInit (pc' := 4) dX4_init_1 rfl ml_X4_3 oi_1 oi_2 (by decide) e1 (Nat.le_of_ble_eq_true rfl) ?_
  refine j_aload_n (i := 0) (pc' := 5) dX4_init_4 rfl rfl 0 rfl ?_
  refine j_bipush (pc' := 7) dX4_init_5 rfl (by decide +kernel) ?_
  obtain ⟨u2, e2, H⟩ := bs H
  obtain ⟨p3, e3, H⟩ := bs H
  refine j_newIp (N := 12) (rc := 1) (rs := 12) (pc' := 9) rfl (by decide) dX4_init_7 rfl ak_int ⟨(crf_R e2), trivial⟩ ⟨(crf_R e2), trivial⟩ e3 ?_
  obtain ⟨u4, e4, H⟩ := bs H
  obtain ⟨h5, e5, H⟩ := bs H
  refine j_putF (pc' := 12) dX4_init_9 rfl rfl fp_X4_9 tR (crf_R e4) e5 ?_
  refine j_aload_n (i := 0) (pc' := 13) dX4_init_12 rfl rfl 0 rfl ?_
  refine j_bipush (pc' := 15) dX4_init_13 rfl (by decide +kernel) ?_
  obtain ⟨u6, e6, H⟩ := bs H
  obtain ⟨p7, e7, H⟩ := bs H
  refine j_newLp (N := 12) (rc := 0) (rs := 0) (pc' := 17) rfl (by decide) dX4_init_15 rfl ak_long ⟨(crf_R e6), trivial⟩ ⟨(crf_R e6), trivial⟩ e7 ?_
  obtain ⟨u8, e8, H⟩ := bs H
  obtain ⟨h9, e9, H⟩ := bs H
  refine j_putF (pc' := 20) dX4_init_17 rfl rfl fp_X4_15 tR (crf_R e8) e9 ?_
  refine j_aload_n (i := 0) (pc' := 21) dX4_init_20 rfl rfl 0 rfl ?_
  refine j_lconst (z := 0) (pc' := 22) dX4_init_21 rfl rfl ?_
  obtain ⟨h10, e10, H⟩ := bs H
  refine j_putV (pc' := 25) dX4_init_22 rfl fp_X4_19 tL ⟨by decide, by decide⟩ e10 ?_
  obtain rfl := Option.some.inj H
  exact j_vret dX4_init_25 ⟨rfl, rfl⟩
-- X4_weighHeaps
noncomputable def fX4_weighHeaps_59  (h : Hp) : Option (Hp) :=
  some h
theorem tX4_weighHeaps_59 {L : Nat} {xs : Nat → Int32} {l : Launch} {res : Hp}  (h : Hp)  (H : fX4_weighHeaps_59  h = some res) : J L xs l RX4 cX4_weighHeaps 4 false 5 (QV res) 0 0 59 [] [] h := by
  unfold fX4_weighHeaps_59 at H
  obtain rfl := Option.some.inj H
  exact j_vret dX4_weighHeaps_59 ⟨rfl, rfl⟩
noncomputable def fX4_weighHeaps_11 : Nat → Nat → Nat → Int → Int → Hp → Option (Hp)
  | 0, _, _, _, _, _ => none
  | n + 1, x0, x1, x2, x3, h => (getR h 6 x1 5).bind fun v1 => (getI h 5 v1 1).bind fun v2 => if v2 ≤ x3 then (fX4_weighHeaps_59 h) else ((getR h 3 x0 0).bind fun v4 => (getR h 6 x1 5).bind fun v5 => (cob h 5 v5).bind fun _ => (fX6_membersOf v5 x3 h).bind fun p7 => (ast p7.2 0 v4 x3 p7.1).bind fun h8 => (getR h8 3 x0 1).bind fun v9 => (getR h8 3 x0 0).bind fun v10 => (ald h8 0 v10 x3).bind fun v11 => (fX0_ofHeap x1 x2 v11 h8).bind fun p12 => (ast p12.2 1 v9 x3 p12.1).bind fun h13 => (c32 (x3 + 1)).bind fun _ => fX4_weighHeaps_11 n x0 x1 x2 (x3 + 1) h13)
theorem tX4_weighHeaps_11 {L : Nat} {xs : Nat → Int32} {l : Launch} {res : Hp} : ∀ (n : Nat) (x0 : Nat) (x1 : Nat) (x2 : Int) (x3 : Int) (h : Hp), R32 x2 → R32 x3 → fX4_weighHeaps_11 n x0 x1 x2 x3 h = some res → J L xs l RX4 cX4_weighHeaps 4 false 5 (QV res) 0 0 11 [(0, vr x0), (1, vr x1), (2, vi x2), (3, vi x3)] [] h := by
  intro n
  induction n with
  | zero => intro x0 x1 x2 x3 h rx2 rx3 H; cases H
  | succ n ih =>
    intro x0 x1 x2 x3 h rx2 rx3 H
    rw [fX4_weighHeaps_11] at H
    refine j_iload_n (i := 3) (pc' := 12) dX4_weighHeaps_11 rfl rfl 3 rfl ?_
    refine j_aload_n (i := 1) (pc' := 13) dX4_weighHeaps_12 rfl rfl 1 rfl ?_
    obtain ⟨v1, e1, H⟩ := bs H
    refine j_getR (pc' := 16) dX4_weighHeaps_13 rfl fl_X4_33 e1 (fun r1 => ?_)
    obtain ⟨v2, e2, H⟩ := bs H
    refine j_getI (pc' := 19) dX4_weighHeaps_16 rfl fl_X4_39 e2 (fun r2 => ?_)
    refine j_icmp_ge (tgt := 59) (pc' := 22) dX4_weighHeaps_19 (by decide) rfl rx3 r2 (fun c3 => ?_) (fun c3 => ?_)
    · rw [if_pos c3] at H
      refine j_sub (lv' := []) [] rfl ?_
      exact tX4_weighHeaps_59   h  H
    · rw [if_neg c3] at H
      refine j_aload_n (i := 0) (pc' := 23) dX4_weighHeaps_22 rfl rfl 0 rfl ?_
      obtain ⟨v4, e4, H⟩ := bs H
      refine j_getR (pc' := 26) dX4_weighHeaps_23 rfl fl_X4_9 e4 (fun r4 => ?_)
      refine j_iload_n (i := 3) (pc' := 27) dX4_weighHeaps_26 rfl rfl 3 rfl ?_
      refine j_aload_n (i := 1) (pc' := 28) dX4_weighHeaps_27 rfl rfl 1 rfl ?_
      obtain ⟨v5, e5, H⟩ := bs H
      refine j_getR (pc' := 31) dX4_weighHeaps_28 rfl fl_X4_33 e5 (fun r5 => ?_)
      refine j_iload_n (i := 3) (pc' := 32) dX4_weighHeaps_31 rfl rfl 3 rfl ?_
      obtain ⟨u6, e6, H⟩ := bs H
      obtain ⟨p7, e7, H⟩ := bs H
      refine j_cVi (y := yX6_membersOf) (dY := 1) (vs := [vi x3]) (st := [vi x3, vr v4]) (q := v5) (pc' := 35) dX4_weighHeaps_32 rfl ymX6_membersOf yvX6_membersOf ml_X4_45 (by decide) rfl (Nat.le_of_ble_eq_true rfl) (Nat.le_of_ble_eq_true rfl) e6 (tX6_membersOf v5 x3 h rx3 e7) (fun r7 z7 => ?_)
      obtain ⟨h8, e8, H⟩ := bs H
      refine j_iast (pc' := 36) dX4_weighHeaps_35 rfl r7 e8 ?_
      refine j_aload_n (i := 0) (pc' := 37) dX4_weighHeaps_36 rfl rfl 0 rfl ?_
      obtain ⟨v9, e9, H⟩ := bs H
      refine j_getR (pc' := 40) dX4_weighHeaps_37 rfl fl_X4_15 e9 (fun r9 => ?_)
      refine j_iload_n (i := 3) (pc' := 41) dX4_weighHeaps_40 rfl rfl 3 rfl ?_
      refine j_aload_n (i := 1) (pc' := 42) dX4_weighHeaps_41 rfl rfl 1 rfl ?_
      refine j_iload_n (i := 2) (pc' := 43) dX4_weighHeaps_42 rfl rfl 2 rfl ?_
      refine j_aload_n (i := 0) (pc' := 44) dX4_weighHeaps_43 rfl rfl 0 rfl ?_
      obtain ⟨v10, e10, H⟩ := bs H
      refine j_getR (pc' := 47) dX4_weighHeaps_44 rfl fl_X4_9 e10 (fun r10 => ?_)
      refine j_iload_n (i := 3) (pc' := 48) dX4_weighHeaps_47 rfl rfl 3 rfl ?_
      obtain ⟨v11, e11, H⟩ := bs H
      refine j_iald (pc' := 49) dX4_weighHeaps_48 rfl e11 (fun r11 => ?_)
      obtain ⟨p12, e12, H⟩ := bs H
      refine j_cSl (y := yX0_ofHeap) (dY := 4) (vs := [vr x1, vi x2, vi v11]) (st := [vi x3, vr v9]) (pc' := 52) dX4_weighHeaps_49 rfl ymX0_ofHeap ysX0_ofHeap ml_X4_49 (by decide) rfl (Nat.le_of_ble_eq_true rfl) (Nat.le_of_ble_eq_true rfl) (tX0_ofHeap x1 x2 v11 h8 rx2 r11 e12) (fun r12 z12 => ?_)
      obtain ⟨h13, e13, H⟩ := bs H
      refine j_last (pc' := 53) dX4_weighHeaps_52 rfl r12 e13 ?_
      obtain ⟨u14, e14, H⟩ := bs H
      have r14 := c32_R e14
      refine j_iinc (k0 := 3) (lv' := [(0, vr x0), (1, vr x1), (2, vi x2), (3, vi (x3 + 1))]) (pc' := 56) dX4_weighHeaps_53 rfl rfl (by decide) [1, 2, 3, 0] rfl ?_
      refine j_goto (tgt := 11) dX4_weighHeaps_56 (by decide) ?_
      exact ih x0 x1 x2 (x3 + 1) h13 rx2 r14 H
noncomputable def fX4_weighHeaps (a0 : Nat) (a1 : Nat) (a2 : Int) (h : Hp) : Option (Hp) :=
  (fX0_ground a1 a2 h).bind fun p1 => (putV p1.2 3 a0 2 (vl p1.1)).bind fun h2 => fX4_weighHeaps_11 FU a0 a1 a2 0 h2
theorem tX4_weighHeaps {L : Nat} {xs : Nat → Int32} {l : Launch} {res : Hp} (a0 : Nat) (a1 : Nat) (a2 : Int) (h : Hp) (ra2 : R32 a2) (H : fX4_weighHeaps a0 a1 a2 h = some res) : J L xs l RX4 cX4_weighHeaps 4 false 5 (QV res) 0 0 0 (alv 0 [vr a0, vr a1, vi a2]) [] h := by
  unfold fX4_weighHeaps at H
  show J L xs l RX4 cX4_weighHeaps 4 false 5 (QV res) 0 0 0 [(0, vr a0), (1, vr a1), (2, vi a2)] [] h
  refine j_aload_n (i := 0) (pc' := 1) dX4_weighHeaps_0 rfl rfl 0 rfl ?_
  refine j_aload_n (i := 1) (pc' := 2) dX4_weighHeaps_1 rfl rfl 1 rfl ?_
  refine j_iload_n (i := 2) (pc' := 3) dX4_weighHeaps_2 rfl rfl 2 rfl ?_
  obtain ⟨p1, e1, H⟩ := bs H
  refine j_cSl (y := yX0_ground) (dY := 2) (vs := [vr a1, vi a2]) (st := [vr a0]) (pc' := 6) dX4_weighHeaps_3 rfl ymX0_ground ysX0_ground ml_X4_28 (by decide) rfl (Nat.le_of_ble_eq_true rfl) (Nat.le_of_ble_eq_true rfl) (tX0_ground a1 a2 h ra2 e1) (fun r1 z1 => ?_)
  obtain ⟨h2, e2, H⟩ := bs H
  refine j_putV (pc' := 9) dX4_weighHeaps_6 rfl fp_X4_19 tL r1 e2 ?_
  refine j_iconst (pc' := 10) dX4_weighHeaps_9 rfl ?_
  refine j_istore_n (i := 3) (lv' := [(0, vr a0), (1, vr a1), (2, vi a2), (3, vi 0)]) (pc' := 11) dX4_weighHeaps_10 rfl rfl (by decide) [1, 2, 3, 0] rfl ?_
  exact tX4_weighHeaps_11   FU a0 a1 a2 0 h2 ra2 ⟨by decide, by decide⟩ H
-- X4_costAfter
noncomputable def fX4_costAfter_89 (x0 : Nat) (x1 : Nat) (x2 : Int) (x3 : Int) (x6 : Int) (x7 : Int) (s0 : Int) (h : Hp) : Option (Int × Hp) :=
  (getR h 3 x0 0).bind fun v1 => (ald h 0 v1 x6).bind fun v2 => (fX0_ofHeap x1 x2 (bAnd v2 (bXor (bShl 1 x3) (-1))) h).bind fun p3 => (fX0_with x2 x7 p3.1 p3.2).bind fun p4 => (fX0_ofHeap x1 x2 (bOr s0 (bShl 1 x3)) p4.2).bind fun p5 => (fX0_with x2 p4.1 p5.1 p5.2).bind fun p6 => some (p6.1, p6.2)
theorem tX4_costAfter_89 {L : Nat} {xs : Nat → Int32} {l : Launch} {res : Int × Hp} (x0 : Nat) (x1 : Nat) (x2 : Int) (x3 : Int) (x6 : Int) (x7 : Int) (s0 : Int) (h : Hp) (rx2 : R32 x2) (rx3 : R32 x3) (rx6 : R32 x6) (rx7 : R64 x7) (rs0 : R32 s0) (H : fX4_costAfter_89 x0 x1 x2 x3 x6 x7 s0 h = some res) : J L xs l RX4 cX4_costAfter 10 false 5 (QL res) 0 0 89 [(0, vr x0), (1, vr x1), (2, vi x2), (3, vi x3), (6, vi x6), (7, vl x7)] [vi s0] h := by
  unfold fX4_costAfter_89 at H
  refine j_iconst (pc' := 90) dX4_costAfter_89 rfl ?_
  refine j_iload_n (i := 3) (pc' := 91) dX4_costAfter_90 rfl rfl 3 rfl ?_
  refine j_ishl (pc' := 92) dX4_costAfter_91 rfl ?_
  refine j_ior (pc' := 93) dX4_costAfter_92 rfl ?_
  refine j_istore (lv' := [(0, vr x0), (1, vr x1), (2, vi x2), (3, vi x3), (6, vi x6), (7, vl x7), (9, vi (bOr s0 (bShl 1 x3)))]) (pc' := 95) dX4_costAfter_93 rfl (by decide) [1, 2, 3, 4, 5, 6, 0] rfl ?_
  refine j_iload_n (i := 2) (pc' := 96) dX4_costAfter_95 rfl rfl 2 rfl ?_
  refine j_lload (pc' := 98) dX4_costAfter_96 rfl 5 rfl ?_
  refine j_aload_n (i := 1) (pc' := 99) dX4_costAfter_98 rfl rfl 1 rfl ?_
  refine j_iload_n (i := 2) (pc' := 100) dX4_costAfter_99 rfl rfl 2 rfl ?_
  refine j_aload_n (i := 0) (pc' := 101) dX4_costAfter_100 rfl rfl 0 rfl ?_
  obtain ⟨v1, e1, H⟩ := bs H
  refine j_getR (pc' := 104) dX4_costAfter_101 rfl fl_X4_9 e1 (fun r1 => ?_)
  refine j_iload (pc' := 106) dX4_costAfter_104 rfl 4 rfl ?_
  obtain ⟨v2, e2, H⟩ := bs H
  refine j_iald (pc' := 107) dX4_costAfter_106 rfl e2 (fun r2 => ?_)
  refine j_iconst (pc' := 108) dX4_costAfter_107 rfl ?_
  refine j_iload_n (i := 3) (pc' := 109) dX4_costAfter_108 rfl rfl 3 rfl ?_
  refine j_ishl (pc' := 110) dX4_costAfter_109 rfl ?_
  refine j_iconst (pc' := 111) dX4_costAfter_110 rfl ?_
  refine j_ixor (pc' := 112) dX4_costAfter_111 rfl ?_
  refine j_iand (pc' := 113) dX4_costAfter_112 rfl ?_
  obtain ⟨p3, e3, H⟩ := bs H
  refine j_cSl (y := yX0_ofHeap) (dY := 4) (vs := [vr x1, vi x2, vi (bAnd v2 (bXor (bShl 1 x3) (-1)))]) (st := [vl x7, vi x2]) (pc' := 116) dX4_costAfter_113 rfl ymX0_ofHeap ysX0_ofHeap ml_X4_49 (by decide) rfl (Nat.le_of_ble_eq_true rfl) (Nat.le_of_ble_eq_true rfl) (tX0_ofHeap x1 x2 (bAnd v2 (bXor (bShl 1 x3) (-1))) h rx2 (R32_to _) e3) (fun r3 z3 => ?_)
  obtain ⟨p4, e4, H⟩ := bs H
  refine j_cSl (y := yX0_with) (dY := 1) (vs := [vi x2, vl x7, vl p3.1]) (st := []) (pc' := 119) dX4_costAfter_116 rfl ymX0_with ysX0_with ml_X4_74 (by decide) rfl (Nat.le_of_ble_eq_true rfl) (Nat.le_of_ble_eq_true rfl) (tX0_with x2 x7 p3.1 p3.2 rx2 rx7 r3 e4) (fun r4 z4 => ?_)
  refine j_lstore (lv' := [(0, vr x0), (1, vr x1), (2, vi x2), (3, vi x3), (6, vi x6), (7, vl p4.1), (9, vi (bOr s0 (bShl 1 x3)))]) (pc' := 121) dX4_costAfter_119 rfl (by decide) [1, 2, 3, 4, 5, 0, 6] rfl ?_
  refine j_iload_n (i := 2) (pc' := 122) dX4_costAfter_121 rfl rfl 2 rfl ?_
  refine j_lload (pc' := 124) dX4_costAfter_122 rfl 5 rfl ?_
  refine j_aload_n (i := 1) (pc' := 125) dX4_costAfter_124 rfl rfl 1 rfl ?_
  refine j_iload_n (i := 2) (pc' := 126) dX4_costAfter_125 rfl rfl 2 rfl ?_
  refine j_iload (pc' := 128) dX4_costAfter_126 rfl 6 rfl ?_
  obtain ⟨p5, e5, H⟩ := bs H
  refine j_cSl (y := yX0_ofHeap) (dY := 4) (vs := [vr x1, vi x2, vi (bOr s0 (bShl 1 x3))]) (st := [vl p4.1, vi x2]) (pc' := 131) dX4_costAfter_128 rfl ymX0_ofHeap ysX0_ofHeap ml_X4_49 (by decide) rfl (Nat.le_of_ble_eq_true rfl) (Nat.le_of_ble_eq_true rfl) (tX0_ofHeap x1 x2 (bOr s0 (bShl 1 x3)) p4.2 rx2 (R32_to _) e5) (fun r5 z5 => ?_)
  obtain ⟨p6, e6, H⟩ := bs H
  refine j_cSl (y := yX0_with) (dY := 1) (vs := [vi x2, vl p4.1, vl p5.1]) (st := []) (pc' := 134) dX4_costAfter_131 rfl ymX0_with ysX0_with ml_X4_74 (by decide) rfl (Nat.le_of_ble_eq_true rfl) (Nat.le_of_ble_eq_true rfl) (tX0_with x2 p4.1 p5.1 p5.2 rx2 r4 r5 e6) (fun r6 z6 => ?_)
  obtain rfl := Option.some.inj H
  exact j_lret dX4_costAfter_134 r6 ⟨rfl, rfl⟩
noncomputable def fX4_costAfter_71 (x0 : Nat) (x1 : Nat) (x2 : Int) (x3 : Int) (x4 : Int) (x5 : Int) (x6 : Int) (x7 : Int) (h : Hp) : Option (Int × Hp) :=
  if x5 ≤ x4 then (fX4_costAfter_89 x0 x1 x2 x3 x6 x7 0 h) else ((getR h 3 x0 0).bind fun v2 => (ald h 0 v2 x4).bind fun v3 => fX4_costAfter_89 x0 x1 x2 x3 x6 x7 v3 h)
theorem tX4_costAfter_71 {L : Nat} {xs : Nat → Int32} {l : Launch} {res : Int × Hp} (x0 : Nat) (x1 : Nat) (x2 : Int) (x3 : Int) (x4 : Int) (x5 : Int) (x6 : Int) (x7 : Int) (h : Hp) (rx2 : R32 x2) (rx3 : R32 x3) (rx4 : R32 x4) (rx5 : R32 x5) (rx6 : R32 x6) (rx7 : R64 x7) (H : fX4_costAfter_71 x0 x1 x2 x3 x4 x5 x6 x7 h = some res) : J L xs l RX4 cX4_costAfter 10 false 5 (QL res) 0 0 71 [(0, vr x0), (1, vr x1), (2, vi x2), (3, vi x3), (4, vi x4), (5, vi x5), (6, vi x6), (7, vl x7)] [] h := by
  unfold fX4_costAfter_71 at H
  refine j_iload (pc' := 73) dX4_costAfter_71 rfl 4 rfl ?_
  refine j_iload (pc' := 75) dX4_costAfter_73 rfl 5 rfl ?_
  refine j_icmp_ge (tgt := 88) (pc' := 78) dX4_costAfter_75 (by decide) rfl rx4 rx5 (fun c1 => ?_) (fun c1 => ?_)
  · rw [if_pos c1] at H
    refine j_iconst (pc' := 89) dX4_costAfter_88 rfl ?_
    refine j_sub (lv' := [(0, vr x0), (1, vr x1), (2, vi x2), (3, vi x3), (6, vi x6), (7, vl x7)]) [0, 1, 2, 3, 6, 7] rfl ?_
    exact tX4_costAfter_89   x0 x1 x2 x3 x6 x7 0 h rx2 rx3 rx6 rx7 ⟨by decide, by decide⟩ H
  · rw [if_neg c1] at H
    refine j_aload_n (i := 0) (pc' := 79) dX4_costAfter_78 rfl rfl 0 rfl ?_
    obtain ⟨v2, e2, H⟩ := bs H
    refine j_getR (pc' := 82) dX4_costAfter_79 rfl fl_X4_9 e2 (fun r2 => ?_)
    refine j_iload (pc' := 84) dX4_costAfter_82 rfl 4 rfl ?_
    obtain ⟨v3, e3, H⟩ := bs H
    refine j_iald (pc' := 85) dX4_costAfter_84 rfl e3 (fun r3 => ?_)
    refine j_goto (tgt := 89) dX4_costAfter_85 (by decide) ?_
    refine j_sub (lv' := [(0, vr x0), (1, vr x1), (2, vi x2), (3, vi x3), (6, vi x6), (7, vl x7)]) [0, 1, 2, 3, 6, 7] rfl ?_
    exact tX4_costAfter_89   x0 x1 x2 x3 x6 x7 v3 h rx2 rx3 rx6 rx7 r3 H
noncomputable def fX4_costAfter_65 (k29 : Nat → Nat → Int → Int → Int → Int → Int → Int → Int → Hp → Option (Int × Hp)) (x0 : Nat) (x1 : Nat) (x2 : Int) (x3 : Int) (x4 : Int) (x5 : Int) (x6 : Int) (x7 : Int) (x9 : Int) (h : Hp) : Option (Int × Hp) :=
  (c32 (x9 + 1)).bind fun _ => k29 x0 x1 x2 x3 x4 x5 x6 x7 (x9 + 1) h
theorem tX4_costAfter_65 {L : Nat} {xs : Nat → Int32} {l : Launch} {res : Int × Hp} (k29 : Nat → Nat → Int → Int → Int → Int → Int → Int → Int → Hp → Option (Int × Hp)) (hk29 : ∀ (x0 : Nat) (x1 : Nat) (x2 : Int) (x3 : Int) (x4 : Int) (x5 : Int) (x6 : Int) (x7 : Int) (x9 : Int) (h : Hp), R32 x2 → R32 x3 → R32 x4 → R32 x5 → R32 x6 → R64 x7 → R32 x9 → k29 x0 x1 x2 x3 x4 x5 x6 x7 x9 h = some res → J L xs l RX4 cX4_costAfter 10 false 5 (QL res) 0 0 29 [(0, vr x0), (1, vr x1), (2, vi x2), (3, vi x3), (4, vi x4), (5, vi x5), (6, vi x6), (7, vl x7), (9, vi x9)] [] h) (x0 : Nat) (x1 : Nat) (x2 : Int) (x3 : Int) (x4 : Int) (x5 : Int) (x6 : Int) (x7 : Int) (x9 : Int) (h : Hp) (rx2 : R32 x2) (rx3 : R32 x3) (rx4 : R32 x4) (rx5 : R32 x5) (rx6 : R32 x6) (rx7 : R64 x7) (rx9 : R32 x9) (H : fX4_costAfter_65 k29 x0 x1 x2 x3 x4 x5 x6 x7 x9 h = some res) : J L xs l RX4 cX4_costAfter 10 false 5 (QL res) 0 0 65 [(0, vr x0), (1, vr x1), (2, vi x2), (3, vi x3), (4, vi x4), (5, vi x5), (6, vi x6), (7, vl x7), (9, vi x9)] [] h := by
  unfold fX4_costAfter_65 at H
  obtain ⟨u1, e1, H⟩ := bs H
  have r1 := c32_R e1
  refine j_iinc (k0 := 8) (lv' := [(0, vr x0), (1, vr x1), (2, vi x2), (3, vi x3), (4, vi x4), (5, vi x5), (6, vi x6), (7, vl x7), (9, vi (x9 + 1))]) (pc' := 68) dX4_costAfter_65 rfl rfl (by decide) [1, 2, 3, 4, 5, 6, 7, 8, 0] rfl ?_
  refine j_goto (tgt := 29) dX4_costAfter_68 (by decide) ?_
  exact hk29 x0 x1 x2 x3 x4 x5 x6 x7 (x9 + 1) h rx2 rx3 rx4 rx5 rx6 rx7 r1 H
noncomputable def fX4_costAfter_29 : Nat → Nat → Nat → Int → Int → Int → Int → Int → Int → Int → Hp → Option (Int × Hp)
  | 0, _, _, _, _, _, _, _, _, _, _ => none
  | n + 1, x0, x1, x2, x3, x4, x5, x6, x7, x9, h => if x5 ≤ x9 then (fX4_costAfter_71 x0 x1 x2 x3 x4 x5 x6 x7 h) else (if x9 = x6 then (fX4_costAfter_65 (fX4_costAfter_29 n) x0 x1 x2 x3 x4 x5 x6 x7 x9 h) else (if x9 = x4 then (fX4_costAfter_65 (fX4_costAfter_29 n) x0 x1 x2 x3 x4 x5 x6 x7 x9 h) else ((getR h 3 x0 1).bind fun v4 => (ald h 1 v4 x9).bind fun v5 => (fX0_with x2 x7 v5 h).bind fun p6 => fX4_costAfter_65 (fX4_costAfter_29 n) x0 x1 x2 x3 x4 x5 x6 p6.1 x9 p6.2)))
theorem tX4_costAfter_29 {L : Nat} {xs : Nat → Int32} {l : Launch} {res : Int × Hp} : ∀ (n : Nat) (x0 : Nat) (x1 : Nat) (x2 : Int) (x3 : Int) (x4 : Int) (x5 : Int) (x6 : Int) (x7 : Int) (x9 : Int) (h : Hp), R32 x2 → R32 x3 → R32 x4 → R32 x5 → R32 x6 → R64 x7 → R32 x9 → fX4_costAfter_29 n x0 x1 x2 x3 x4 x5 x6 x7 x9 h = some res → J L xs l RX4 cX4_costAfter 10 false 5 (QL res) 0 0 29 [(0, vr x0), (1, vr x1), (2, vi x2), (3, vi x3), (4, vi x4), (5, vi x5), (6, vi x6), (7, vl x7), (9, vi x9)] [] h := by
  intro n
  induction n with
  | zero => intro x0 x1 x2 x3 x4 x5 x6 x7 x9 h rx2 rx3 rx4 rx5 rx6 rx7 rx9 H; cases H
  | succ n ih =>
    intro x0 x1 x2 x3 x4 x5 x6 x7 x9 h rx2 rx3 rx4 rx5 rx6 rx7 rx9 H
    rw [fX4_costAfter_29] at H
    refine j_iload (pc' := 31) dX4_costAfter_29 rfl 8 rfl ?_
    refine j_iload (pc' := 33) dX4_costAfter_31 rfl 5 rfl ?_
    refine j_icmp_ge (tgt := 71) (pc' := 36) dX4_costAfter_33 (by decide) rfl rx9 rx5 (fun c1 => ?_) (fun c1 => ?_)
    · rw [if_pos c1] at H
      refine j_sub (lv' := [(0, vr x0), (1, vr x1), (2, vi x2), (3, vi x3), (4, vi x4), (5, vi x5), (6, vi x6), (7, vl x7)]) [0, 1, 2, 3, 4, 5, 6, 7] rfl ?_
      exact tX4_costAfter_71   x0 x1 x2 x3 x4 x5 x6 x7 h rx2 rx3 rx4 rx5 rx6 rx7 H
    · rw [if_neg c1] at H
      refine j_iload (pc' := 38) dX4_costAfter_36 rfl 8 rfl ?_
      refine j_iload (pc' := 40) dX4_costAfter_38 rfl 6 rfl ?_
      refine j_icmp_eq (tgt := 65) (pc' := 43) dX4_costAfter_40 (by decide) rfl rx9 rx6 (fun c2 => ?_) (fun c2 => ?_)
      · rw [if_pos c2] at H
        exact tX4_costAfter_65 _ ih x0 x1 x2 x3 x4 x5 x6 x7 x9 h rx2 rx3 rx4 rx5 rx6 rx7 rx9 H
      · rw [if_neg c2] at H
        refine j_iload (pc' := 45) dX4_costAfter_43 rfl 8 rfl ?_
        refine j_iload (pc' := 47) dX4_costAfter_45 rfl 4 rfl ?_
        refine j_icmp_eq (tgt := 65) (pc' := 50) dX4_costAfter_47 (by decide) rfl rx9 rx4 (fun c3 => ?_) (fun c3 => ?_)
        · rw [if_pos c3] at H
          exact tX4_costAfter_65 _ ih x0 x1 x2 x3 x4 x5 x6 x7 x9 h rx2 rx3 rx4 rx5 rx6 rx7 rx9 H
        · rw [if_neg c3] at H
          refine j_iload_n (i := 2) (pc' := 51) dX4_costAfter_50 rfl rfl 2 rfl ?_
          refine j_lload (pc' := 53) dX4_costAfter_51 rfl 7 rfl ?_
          refine j_aload_n (i := 0) (pc' := 54) dX4_costAfter_53 rfl rfl 0 rfl ?_
          obtain ⟨v4, e4, H⟩ := bs H
          refine j_getR (pc' := 57) dX4_costAfter_54 rfl fl_X4_15 e4 (fun r4 => ?_)
          refine j_iload (pc' := 59) dX4_costAfter_57 rfl 8 rfl ?_
          obtain ⟨v5, e5, H⟩ := bs H
          refine j_lald (pc' := 60) dX4_costAfter_59 rfl e5 (fun r5 => ?_)
          obtain ⟨p6, e6, H⟩ := bs H
          refine j_cSl (y := yX0_with) (dY := 1) (vs := [vi x2, vl x7, vl v5]) (st := []) (pc' := 63) dX4_costAfter_60 rfl ymX0_with ysX0_with ml_X4_74 (by decide) rfl (Nat.le_of_ble_eq_true rfl) (Nat.le_of_ble_eq_true rfl) (tX0_with x2 x7 v5 h rx2 rx7 r5 e6) (fun r6 z6 => ?_)
          refine j_lstore (lv' := [(0, vr x0), (1, vr x1), (2, vi x2), (3, vi x3), (4, vi x4), (5, vi x5), (6, vi x6), (7, vl p6.1), (9, vi x9)]) (pc' := 65) dX4_costAfter_63 rfl (by decide) [1, 2, 3, 4, 5, 6, 7, 0, 8] rfl ?_
          exact tX4_costAfter_65 _ ih x0 x1 x2 x3 x4 x5 x6 p6.1 x9 p6.2 rx2 rx3 rx4 rx5 rx6 r6 rx9 H
noncomputable def fX4_costAfter (a0 : Nat) (a1 : Nat) (a2 : Int) (a3 : Int) (a4 : Int) (h : Hp) : Option (Int × Hp) :=
  (getR h 6 a1 5).bind fun v1 => (getI h 5 v1 1).bind fun v2 => (getR h 6 a1 5).bind fun v3 => (getR h 5 v3 2).bind fun v4 => (ald h 0 v4 a3).bind fun v5 => (getL h 3 a0 2).bind fun v6 => fX4_costAfter_29 FU a0 a1 a2 a3 a4 v2 v5 v6 0 h
theorem tX4_costAfter {L : Nat} {xs : Nat → Int32} {l : Launch} {res : Int × Hp} (a0 : Nat) (a1 : Nat) (a2 : Int) (a3 : Int) (a4 : Int) (h : Hp) (ra2 : R32 a2) (ra3 : R32 a3) (ra4 : R32 a4) (H : fX4_costAfter a0 a1 a2 a3 a4 h = some res) : J L xs l RX4 cX4_costAfter 10 false 5 (QL res) 0 0 0 (alv 0 [vr a0, vr a1, vi a2, vi a3, vi a4]) [] h := by
  unfold fX4_costAfter at H
  show J L xs l RX4 cX4_costAfter 10 false 5 (QL res) 0 0 0 [(0, vr a0), (1, vr a1), (2, vi a2), (3, vi a3), (4, vi a4)] [] h
  refine j_aload_n (i := 1) (pc' := 1) dX4_costAfter_0 rfl rfl 1 rfl ?_
  obtain ⟨v1, e1, H⟩ := bs H
  refine j_getR (pc' := 4) dX4_costAfter_1 rfl fl_X4_33 e1 (fun r1 => ?_)
  obtain ⟨v2, e2, H⟩ := bs H
  refine j_getI (pc' := 7) dX4_costAfter_4 rfl fl_X4_39 e2 (fun r2 => ?_)
  refine j_istore (lv' := [(0, vr a0), (1, vr a1), (2, vi a2), (3, vi a3), (4, vi a4), (5, vi v2)]) (pc' := 9) dX4_costAfter_7 rfl (by decide) [1, 2, 3, 4, 5, 0] rfl ?_
  refine j_aload_n (i := 1) (pc' := 10) dX4_costAfter_9 rfl rfl 1 rfl ?_
  obtain ⟨v3, e3, H⟩ := bs H
  refine j_getR (pc' := 13) dX4_costAfter_10 rfl fl_X4_33 e3 (fun r3 => ?_)
  obtain ⟨v4, e4, H⟩ := bs H
  refine j_getR (pc' := 16) dX4_costAfter_13 rfl fl_X4_64 e4 (fun r4 => ?_)
  refine j_iload_n (i := 3) (pc' := 17) dX4_costAfter_16 rfl rfl 3 rfl ?_
  obtain ⟨v5, e5, H⟩ := bs H
  refine j_iald (pc' := 18) dX4_costAfter_17 rfl e5 (fun r5 => ?_)
  refine j_istore (lv' := [(0, vr a0), (1, vr a1), (2, vi a2), (3, vi a3), (4, vi a4), (5, vi v2), (6, vi v5)]) (pc' := 20) dX4_costAfter_18 rfl (by decide) [1, 2, 3, 4, 5, 6, 0] rfl ?_
  refine j_aload_n (i := 0) (pc' := 21) dX4_costAfter_20 rfl rfl 0 rfl ?_
  obtain ⟨v6, e6, H⟩ := bs H
  refine j_getL (pc' := 24) dX4_costAfter_21 rfl fl_X4_19 e6 (fun r6 => ?_)
  refine j_lstore (lv' := [(0, vr a0), (1, vr a1), (2, vi a2), (3, vi a3), (4, vi a4), (5, vi v2), (6, vi v5), (7, vl v6)]) (pc' := 26) dX4_costAfter_24 rfl (by decide) [1, 2, 3, 4, 5, 6, 7, 0] rfl ?_
  refine j_iconst (pc' := 27) dX4_costAfter_26 rfl ?_
  refine j_istore (lv' := [(0, vr a0), (1, vr a1), (2, vi a2), (3, vi a3), (4, vi a4), (5, vi v2), (6, vi v5), (7, vl v6), (9, vi 0)]) (pc' := 29) dX4_costAfter_27 rfl (by decide) [1, 2, 3, 4, 5, 6, 7, 8, 0] rfl ?_
  exact tX4_costAfter_29   FU a0 a1 a2 a3 a4 v2 v5 v6 0 h ra2 ra3 ra4 r2 r5 r6 ⟨by decide, by decide⟩ H
-- X4_makeBestMove
noncomputable def fX4_makeBestMove_151 (x3 : Nat) (x6 : Int) (x7 : Int) (h : Hp) : Option (Int × Hp) :=
  if x6 = (-1) then (some (0, h)) else ((getR h 5 x3 2).bind fun v2 => (ast h 0 v2 x6 x7).bind fun h3 => (cob h3 5 x3).bind fun _ => (fX6_renumber x3 h3).bind fun h5 => some (1, h5))
theorem tX4_makeBestMove_151 {L : Nat} {xs : Nat → Int32} {l : Launch} {res : Int × Hp} (x3 : Nat) (x6 : Int) (x7 : Int) (h : Hp) (rx6 : R32 x6) (rx7 : R32 x7) (H : fX4_makeBestMove_151 x3 x6 x7 h = some res) : J L xs l RX4 cX4_makeBestMove 15 false 6 (QB res) 0 0 151 [(3, vr x3), (6, vi x6), (7, vi x7)] [] h := by
  unfold fX4_makeBestMove_151 at H
  refine j_iload (pc' := 153) dX4_makeBestMove_151 rfl 1 rfl ?_
  refine j_iconst (pc' := 154) dX4_makeBestMove_153 rfl ?_
  refine j_icmp_ne (tgt := 159) (pc' := 157) dX4_makeBestMove_154 (by decide) rfl rx6 ⟨by decide, by decide⟩ (fun c1 => ?_) (fun c1 => ?_)
  · rw [if_neg c1] at H
    refine j_aload_n (i := 3) (pc' := 160) dX4_makeBestMove_159 rfl rfl 0 rfl ?_
    obtain ⟨v2, e2, H⟩ := bs H
    refine j_getR (pc' := 163) dX4_makeBestMove_160 rfl fl_X4_64 e2 (fun r2 => ?_)
    refine j_iload (pc' := 165) dX4_makeBestMove_163 rfl 1 rfl ?_
    refine j_iload (pc' := 167) dX4_makeBestMove_165 rfl 2 rfl ?_
    obtain ⟨h3, e3, H⟩ := bs H
    refine j_iast (pc' := 168) dX4_makeBestMove_167 rfl rx7 e3 ?_
    refine j_aload_n (i := 3) (pc' := 169) dX4_makeBestMove_168 rfl rfl 0 rfl ?_
    obtain ⟨u4, e4, H⟩ := bs H
    obtain ⟨h5, e5, H⟩ := bs H
    refine j_cVv (y := yX6_renumber) (dY := 2) (vs := []) (st := []) (q := x3) (pc' := 172) dX4_makeBestMove_169 rfl ymX6_renumber yvX6_renumber ml_X4_71 (by decide) rfl (Nat.le_of_ble_eq_true rfl) (Nat.le_of_ble_eq_true rfl) e4 (tX6_renumber x3 h3 e5) (fun z5 => ?_)
    refine j_iconst (pc' := 173) dX4_makeBestMove_172 rfl ?_
    obtain rfl := Option.some.inj H
    exact j_iret dX4_makeBestMove_173 ⟨by decide, by decide⟩ ⟨rfl, rfl, Or.inr rfl⟩
  · rw [if_pos c1] at H
    refine j_iconst (pc' := 158) dX4_makeBestMove_157 rfl ?_
    obtain rfl := Option.some.inj H
    exact j_iret dX4_makeBestMove_158 ⟨by decide, by decide⟩ ⟨rfl, rfl, Or.inl rfl⟩
noncomputable def fX4_makeBestMove_145 (k28 : Nat → Nat → Int → Nat → Int → Int → Int → Int → Hp → Option (Int × Hp)) (x0 : Nat) (x1 : Nat) (x2 : Int) (x3 : Nat) (x4 : Int) (x6 : Int) (x7 : Int) (x8 : Int) (h : Hp) : Option (Int × Hp) :=
  (c32 (x8 + 1)).bind fun _ => k28 x0 x1 x2 x3 x4 x6 x7 (x8 + 1) h
theorem tX4_makeBestMove_145 {L : Nat} {xs : Nat → Int32} {l : Launch} {res : Int × Hp} (k28 : Nat → Nat → Int → Nat → Int → Int → Int → Int → Hp → Option (Int × Hp)) (hk28 : ∀ (x0 : Nat) (x1 : Nat) (x2 : Int) (x3 : Nat) (x4 : Int) (x6 : Int) (x7 : Int) (x8 : Int) (h : Hp), R32 x2 → R64 x4 → R32 x6 → R32 x7 → R32 x8 → k28 x0 x1 x2 x3 x4 x6 x7 x8 h = some res → J L xs l RX4 cX4_makeBestMove 15 false 6 (QB res) 0 0 28 [(0, vr x0), (1, vr x1), (2, vi x2), (3, vr x3), (4, vl x4), (6, vi x6), (7, vi x7), (8, vi x8)] [] h) (x0 : Nat) (x1 : Nat) (x2 : Int) (x3 : Nat) (x4 : Int) (x6 : Int) (x7 : Int) (x8 : Int) (h : Hp) (rx2 : R32 x2) (rx4 : R64 x4) (rx6 : R32 x6) (rx7 : R32 x7) (rx8 : R32 x8) (H : fX4_makeBestMove_145 k28 x0 x1 x2 x3 x4 x6 x7 x8 h = some res) : J L xs l RX4 cX4_makeBestMove 15 false 6 (QB res) 0 0 145 [(0, vr x0), (1, vr x1), (2, vi x2), (3, vr x3), (4, vl x4), (6, vi x6), (7, vi x7), (8, vi x8)] [] h := by
  unfold fX4_makeBestMove_145 at H
  obtain ⟨u1, e1, H⟩ := bs H
  have r1 := c32_R e1
  refine j_iinc (k0 := 7) (lv' := [(0, vr x0), (1, vr x1), (2, vi x2), (3, vr x3), (4, vl x4), (6, vi x6), (7, vi x7), (8, vi (x8 + 1))]) (pc' := 148) dX4_makeBestMove_145 rfl rfl (by decide) [1, 2, 3, 4, 5, 6, 7, 0] rfl ?_
  refine j_goto (tgt := 28) dX4_makeBestMove_148 (by decide) ?_
  exact hk28 x0 x1 x2 x3 x4 x6 x7 (x8 + 1) h rx2 rx4 rx6 rx7 r1 H
noncomputable def fX4_makeBestMove_139 (k28 : Nat → Nat → Int → Nat → Int → Int → Int → Int → Hp → Option (Int × Hp)) (k90 : Nat → Nat → Int → Nat → Int → Int → Int → Int → Int → Int → Int → Hp → Option (Int × Hp)) (x0 : Nat) (x1 : Nat) (x2 : Int) (x3 : Nat) (x4 : Int) (x6 : Int) (x7 : Int) (x8 : Int) (x9 : Int) (x11 : Int) (x12 : Int) (h : Hp) : Option (Int × Hp) :=
  (c32 (x12 + 1)).bind fun _ => k90 x0 x1 x2 x3 x4 x6 x7 x8 x9 x11 (x12 + 1) h
theorem tX4_makeBestMove_139 {L : Nat} {xs : Nat → Int32} {l : Launch} {res : Int × Hp} (k28 : Nat → Nat → Int → Nat → Int → Int → Int → Int → Hp → Option (Int × Hp)) (k90 : Nat → Nat → Int → Nat → Int → Int → Int → Int → Int → Int → Int → Hp → Option (Int × Hp)) (hk28 : ∀ (x0 : Nat) (x1 : Nat) (x2 : Int) (x3 : Nat) (x4 : Int) (x6 : Int) (x7 : Int) (x8 : Int) (h : Hp), R32 x2 → R64 x4 → R32 x6 → R32 x7 → R32 x8 → k28 x0 x1 x2 x3 x4 x6 x7 x8 h = some res → J L xs l RX4 cX4_makeBestMove 15 false 6 (QB res) 0 0 28 [(0, vr x0), (1, vr x1), (2, vi x2), (3, vr x3), (4, vl x4), (6, vi x6), (7, vi x7), (8, vi x8)] [] h) (hk90 : ∀ (x0 : Nat) (x1 : Nat) (x2 : Int) (x3 : Nat) (x4 : Int) (x6 : Int) (x7 : Int) (x8 : Int) (x9 : Int) (x11 : Int) (x12 : Int) (h : Hp), R32 x2 → R64 x4 → R32 x6 → R32 x7 → R32 x8 → R32 x9 → R32 x11 → R32 x12 → k90 x0 x1 x2 x3 x4 x6 x7 x8 x9 x11 x12 h = some res → J L xs l RX4 cX4_makeBestMove 15 false 6 (QB res) 0 0 90 [(0, vr x0), (1, vr x1), (2, vi x2), (3, vr x3), (4, vl x4), (6, vi x6), (7, vi x7), (8, vi x8), (9, vi x9), (11, vi x11), (12, vi x12)] [] h) (x0 : Nat) (x1 : Nat) (x2 : Int) (x3 : Nat) (x4 : Int) (x6 : Int) (x7 : Int) (x8 : Int) (x9 : Int) (x11 : Int) (x12 : Int) (h : Hp) (rx2 : R32 x2) (rx4 : R64 x4) (rx6 : R32 x6) (rx7 : R32 x7) (rx8 : R32 x8) (rx9 : R32 x9) (rx11 : R32 x11) (rx12 : R32 x12) (H : fX4_makeBestMove_139 k28 k90 x0 x1 x2 x3 x4 x6 x7 x8 x9 x11 x12 h = some res) : J L xs l RX4 cX4_makeBestMove 15 false 6 (QB res) 0 0 139 [(0, vr x0), (1, vr x1), (2, vi x2), (3, vr x3), (4, vl x4), (6, vi x6), (7, vi x7), (8, vi x8), (9, vi x9), (11, vi x11), (12, vi x12)] [] h := by
  unfold fX4_makeBestMove_139 at H
  obtain ⟨u1, e1, H⟩ := bs H
  have r1 := c32_R e1
  refine j_iinc (k0 := 10) (lv' := [(0, vr x0), (1, vr x1), (2, vi x2), (3, vr x3), (4, vl x4), (6, vi x6), (7, vi x7), (8, vi x8), (9, vi x9), (11, vi x11), (12, vi (x12 + 1))]) (pc' := 142) dX4_makeBestMove_139 rfl rfl (by decide) [1, 2, 3, 4, 5, 6, 7, 8, 9, 10, 0] rfl ?_
  refine j_goto (tgt := 90) dX4_makeBestMove_142 (by decide) ?_
  exact hk90 x0 x1 x2 x3 x4 x6 x7 x8 x9 x11 (x12 + 1) h rx2 rx4 rx6 rx7 rx8 rx9 rx11 r1 H
noncomputable def fX4_makeBestMove_90 (k28 : Nat → Nat → Int → Nat → Int → Int → Int → Int → Hp → Option (Int × Hp)) : Nat → Nat → Nat → Int → Nat → Int → Int → Int → Int → Int → Int → Int → Hp → Option (Int × Hp)
  | 0, _, _, _, _, _, _, _, _, _, _, _, _ => none
  | n + 1, x0, x1, x2, x3, x4, x6, x7, x8, x9, x11, x12, h => if x11 < x12 then (fX4_makeBestMove_145 k28 x0 x1 x2 x3 x4 x6 x7 x8 h) else (if x12 = x9 then (fX4_makeBestMove_139 k28 (fX4_makeBestMove_90 k28 n) x0 x1 x2 x3 x4 x6 x7 x8 x9 x11 x12 h) else ((cob h 3 x0).bind fun _ => (fX4_costAfter x0 x1 x2 x8 x12 h).bind fun p4 => if 0 ≤ (lCmp p4.1 x4) then (fX4_makeBestMove_139 k28 (fX4_makeBestMove_90 k28 n) x0 x1 x2 x3 x4 x6 x7 x8 x9 x11 x12 p4.2) else (fX4_makeBestMove_139 k28 (fX4_makeBestMove_90 k28 n) x0 x1 x2 x3 p4.1 x8 x12 x8 x9 x11 x12 p4.2)))
theorem tX4_makeBestMove_90 {L : Nat} {xs : Nat → Int32} {l : Launch} {res : Int × Hp} (k28 : Nat → Nat → Int → Nat → Int → Int → Int → Int → Hp → Option (Int × Hp)) (hk28 : ∀ (x0 : Nat) (x1 : Nat) (x2 : Int) (x3 : Nat) (x4 : Int) (x6 : Int) (x7 : Int) (x8 : Int) (h : Hp), R32 x2 → R64 x4 → R32 x6 → R32 x7 → R32 x8 → k28 x0 x1 x2 x3 x4 x6 x7 x8 h = some res → J L xs l RX4 cX4_makeBestMove 15 false 6 (QB res) 0 0 28 [(0, vr x0), (1, vr x1), (2, vi x2), (3, vr x3), (4, vl x4), (6, vi x6), (7, vi x7), (8, vi x8)] [] h) : ∀ (n : Nat) (x0 : Nat) (x1 : Nat) (x2 : Int) (x3 : Nat) (x4 : Int) (x6 : Int) (x7 : Int) (x8 : Int) (x9 : Int) (x11 : Int) (x12 : Int) (h : Hp), R32 x2 → R64 x4 → R32 x6 → R32 x7 → R32 x8 → R32 x9 → R32 x11 → R32 x12 → fX4_makeBestMove_90 k28 n x0 x1 x2 x3 x4 x6 x7 x8 x9 x11 x12 h = some res → J L xs l RX4 cX4_makeBestMove 15 false 6 (QB res) 0 0 90 [(0, vr x0), (1, vr x1), (2, vi x2), (3, vr x3), (4, vl x4), (6, vi x6), (7, vi x7), (8, vi x8), (9, vi x9), (11, vi x11), (12, vi x12)] [] h := by
  intro n
  induction n with
  | zero => intro x0 x1 x2 x3 x4 x6 x7 x8 x9 x11 x12 h rx2 rx4 rx6 rx7 rx8 rx9 rx11 rx12 H; cases H
  | succ n ih =>
    intro x0 x1 x2 x3 x4 x6 x7 x8 x9 x11 x12 h rx2 rx4 rx6 rx7 rx8 rx9 rx11 rx12 H
    rw [fX4_makeBestMove_90] at H
    refine j_iload (pc' := 92) dX4_makeBestMove_90 rfl 10 rfl ?_
    refine j_iload (pc' := 94) dX4_makeBestMove_92 rfl 9 rfl ?_
    refine j_icmp_gt (tgt := 145) (pc' := 97) dX4_makeBestMove_94 (by decide) rfl rx12 rx11 (fun c1 => ?_) (fun c1 => ?_)
    · rw [if_pos c1] at H
      refine j_sub (lv' := [(0, vr x0), (1, vr x1), (2, vi x2), (3, vr x3), (4, vl x4), (6, vi x6), (7, vi x7), (8, vi x8)]) [0, 1, 2, 3, 4, 5, 6, 7] rfl ?_
      exact tX4_makeBestMove_145 _ hk28 x0 x1 x2 x3 x4 x6 x7 x8 h rx2 rx4 rx6 rx7 rx8 H
    · rw [if_neg c1] at H
      refine j_iload (pc' := 99) dX4_makeBestMove_97 rfl 10 rfl ?_
      refine j_iload (pc' := 101) dX4_makeBestMove_99 rfl 8 rfl ?_
      refine j_icmp_ne (tgt := 107) (pc' := 104) dX4_makeBestMove_101 (by decide) rfl rx12 rx9 (fun c2 => ?_) (fun c2 => ?_)
      · rw [if_neg c2] at H
        refine j_aload_n (i := 0) (pc' := 108) dX4_makeBestMove_107 rfl rfl 0 rfl ?_
        refine j_aload_n (i := 1) (pc' := 109) dX4_makeBestMove_108 rfl rfl 1 rfl ?_
        refine j_iload_n (i := 2) (pc' := 110) dX4_makeBestMove_109 rfl rfl 2 rfl ?_
        refine j_iload (pc' := 112) dX4_makeBestMove_110 rfl 7 rfl ?_
        refine j_iload (pc' := 114) dX4_makeBestMove_112 rfl 10 rfl ?_
        obtain ⟨u3, e3, H⟩ := bs H
        obtain ⟨p4, e4, H⟩ := bs H
        refine j_cVl (y := yX4_costAfter) (dY := 5) (vs := [vr x1, vi x2, vi x8, vi x12]) (st := []) (q := x0) (pc' := 117) dX4_makeBestMove_114 rfl ymX4_costAfter yvX4_costAfter ml_X4_67 (by decide) rfl (Nat.le_of_ble_eq_true rfl) (Nat.le_of_ble_eq_true rfl) e3 (tX4_costAfter x0 x1 x2 x8 x12 h rx2 rx8 rx12 e4) (fun r4 z4 => ?_)
        refine j_lstore (lv' := [(0, vr x0), (1, vr x1), (2, vi x2), (3, vr x3), (4, vl x4), (6, vi x6), (7, vi x7), (8, vi x8), (9, vi x9), (11, vi x11), (12, vi x12), (13, vl p4.1)]) (pc' := 119) dX4_makeBestMove_117 rfl (by decide) [1, 2, 3, 4, 5, 6, 7, 8, 9, 10, 11, 0] rfl ?_
        refine j_lload (pc' := 121) dX4_makeBestMove_119 rfl 11 rfl ?_
        refine j_lload (pc' := 123) dX4_makeBestMove_121 rfl 4 rfl ?_
        refine j_lcmp (pc' := 124) dX4_makeBestMove_123 rfl r4 rx4 ?_
        refine j_if_ge (tgt := 139) (pc' := 127) dX4_makeBestMove_124 (by decide) rfl (R32_lcmp _ _) (fun c5 => ?_) (fun c5 => ?_)
        · rw [if_pos c5] at H
          refine j_sub (lv' := [(0, vr x0), (1, vr x1), (2, vi x2), (3, vr x3), (4, vl x4), (6, vi x6), (7, vi x7), (8, vi x8), (9, vi x9), (11, vi x11), (12, vi x12)]) [0, 1, 2, 3, 4, 5, 6, 7, 8, 9, 10] rfl ?_
          exact tX4_makeBestMove_139 _ _ hk28 ih x0 x1 x2 x3 x4 x6 x7 x8 x9 x11 x12 p4.2 rx2 rx4 rx6 rx7 rx8 rx9 rx11 rx12 H
        · rw [if_neg c5] at H
          refine j_lload (pc' := 129) dX4_makeBestMove_127 rfl 11 rfl ?_
          refine j_lstore (lv' := [(0, vr x0), (1, vr x1), (2, vi x2), (3, vr x3), (4, vl p4.1), (6, vi x6), (7, vi x7), (8, vi x8), (9, vi x9), (11, vi x11), (12, vi x12), (13, vl p4.1)]) (pc' := 131) dX4_makeBestMove_129 rfl (by decide) [1, 2, 3, 4, 0, 5, 6, 7, 8, 9, 10, 11] rfl ?_
          refine j_iload (pc' := 133) dX4_makeBestMove_131 rfl 7 rfl ?_
          refine j_istore (lv' := [(0, vr x0), (1, vr x1), (2, vi x2), (3, vr x3), (4, vl p4.1), (6, vi x8), (7, vi x7), (8, vi x8), (9, vi x9), (11, vi x11), (12, vi x12), (13, vl p4.1)]) (pc' := 135) dX4_makeBestMove_133 rfl (by decide) [1, 2, 3, 4, 5, 0, 6, 7, 8, 9, 10, 11] rfl ?_
          refine j_iload (pc' := 137) dX4_makeBestMove_135 rfl 10 rfl ?_
          refine j_istore (lv' := [(0, vr x0), (1, vr x1), (2, vi x2), (3, vr x3), (4, vl p4.1), (6, vi x8), (7, vi x12), (8, vi x8), (9, vi x9), (11, vi x11), (12, vi x12), (13, vl p4.1)]) (pc' := 139) dX4_makeBestMove_137 rfl (by decide) [1, 2, 3, 4, 5, 6, 0, 7, 8, 9, 10, 11] rfl ?_
          refine j_sub (lv' := [(0, vr x0), (1, vr x1), (2, vi x2), (3, vr x3), (4, vl p4.1), (6, vi x8), (7, vi x12), (8, vi x8), (9, vi x9), (11, vi x11), (12, vi x12)]) [0, 1, 2, 3, 4, 5, 6, 7, 8, 9, 10] rfl ?_
          exact tX4_makeBestMove_139 _ _ hk28 ih x0 x1 x2 x3 p4.1 x8 x12 x8 x9 x11 x12 p4.2 rx2 r4 rx8 rx12 rx8 rx9 rx11 rx12 H
      · rw [if_pos c2] at H
        refine j_goto (tgt := 139) dX4_makeBestMove_104 (by decide) ?_
        exact tX4_makeBestMove_139 _ _ hk28 ih x0 x1 x2 x3 x4 x6 x7 x8 x9 x11 x12 h rx2 rx4 rx6 rx7 rx8 rx9 rx11 rx12 H
noncomputable def fX4_makeBestMove_85 (k28 : Nat → Nat → Int → Nat → Int → Int → Int → Int → Hp → Option (Int × Hp)) (x0 : Nat) (x1 : Nat) (x2 : Int) (x3 : Nat) (x4 : Int) (x6 : Int) (x7 : Int) (x8 : Int) (x9 : Int) (s0 : Int) (h : Hp) : Option (Int × Hp) :=
  fX4_makeBestMove_90 k28 FU x0 x1 x2 x3 x4 x6 x7 x8 x9 s0 0 h
theorem tX4_makeBestMove_85 {L : Nat} {xs : Nat → Int32} {l : Launch} {res : Int × Hp} (k28 : Nat → Nat → Int → Nat → Int → Int → Int → Int → Hp → Option (Int × Hp)) (hk28 : ∀ (x0 : Nat) (x1 : Nat) (x2 : Int) (x3 : Nat) (x4 : Int) (x6 : Int) (x7 : Int) (x8 : Int) (h : Hp), R32 x2 → R64 x4 → R32 x6 → R32 x7 → R32 x8 → k28 x0 x1 x2 x3 x4 x6 x7 x8 h = some res → J L xs l RX4 cX4_makeBestMove 15 false 6 (QB res) 0 0 28 [(0, vr x0), (1, vr x1), (2, vi x2), (3, vr x3), (4, vl x4), (6, vi x6), (7, vi x7), (8, vi x8)] [] h) (x0 : Nat) (x1 : Nat) (x2 : Int) (x3 : Nat) (x4 : Int) (x6 : Int) (x7 : Int) (x8 : Int) (x9 : Int) (s0 : Int) (h : Hp) (rx2 : R32 x2) (rx4 : R64 x4) (rx6 : R32 x6) (rx7 : R32 x7) (rx8 : R32 x8) (rx9 : R32 x9) (rs0 : R32 s0) (H : fX4_makeBestMove_85 k28 x0 x1 x2 x3 x4 x6 x7 x8 x9 s0 h = some res) : J L xs l RX4 cX4_makeBestMove 15 false 6 (QB res) 0 0 85 [(0, vr x0), (1, vr x1), (2, vi x2), (3, vr x3), (4, vl x4), (6, vi x6), (7, vi x7), (8, vi x8), (9, vi x9)] [vi s0] h := by
  unfold fX4_makeBestMove_85 at H
  refine j_istore (lv' := [(0, vr x0), (1, vr x1), (2, vi x2), (3, vr x3), (4, vl x4), (6, vi x6), (7, vi x7), (8, vi x8), (9, vi x9), (11, vi s0)]) (pc' := 87) dX4_makeBestMove_85 rfl (by decide) [1, 2, 3, 4, 5, 6, 7, 8, 9, 0] rfl ?_
  refine j_iconst (pc' := 88) dX4_makeBestMove_87 rfl ?_
  refine j_istore (lv' := [(0, vr x0), (1, vr x1), (2, vi x2), (3, vr x3), (4, vl x4), (6, vi x6), (7, vi x7), (8, vi x8), (9, vi x9), (11, vi s0), (12, vi 0)]) (pc' := 90) dX4_makeBestMove_88 rfl (by decide) [1, 2, 3, 4, 5, 6, 7, 8, 9, 10, 0] rfl ?_
  exact tX4_makeBestMove_90 _ hk28 FU x0 x1 x2 x3 x4 x6 x7 x8 x9 s0 0 h rx2 rx4 rx6 rx7 rx8 rx9 rs0 ⟨by decide, by decide⟩ H
noncomputable def fX4_makeBestMove_65 (k28 : Nat → Nat → Int → Nat → Int → Int → Int → Int → Hp → Option (Int × Hp)) (x0 : Nat) (x1 : Nat) (x2 : Int) (x3 : Nat) (x4 : Int) (x6 : Int) (x7 : Int) (x8 : Int) (x9 : Int) (s0 : Int) (h : Hp) : Option (Int × Hp) :=
  if s0 = 0 then ((getI h 5 x3 1).bind fun v2 => fX4_makeBestMove_85 k28 x0 x1 x2 x3 x4 x6 x7 x8 x9 v2 h) else ((getI h 5 x3 1).bind fun v3 => (c32 (v3 - 1)).bind fun _ => fX4_makeBestMove_85 k28 x0 x1 x2 x3 x4 x6 x7 x8 x9 (v3 - 1) h)
theorem tX4_makeBestMove_65 {L : Nat} {xs : Nat → Int32} {l : Launch} {res : Int × Hp} (k28 : Nat → Nat → Int → Nat → Int → Int → Int → Int → Hp → Option (Int × Hp)) (hk28 : ∀ (x0 : Nat) (x1 : Nat) (x2 : Int) (x3 : Nat) (x4 : Int) (x6 : Int) (x7 : Int) (x8 : Int) (h : Hp), R32 x2 → R64 x4 → R32 x6 → R32 x7 → R32 x8 → k28 x0 x1 x2 x3 x4 x6 x7 x8 h = some res → J L xs l RX4 cX4_makeBestMove 15 false 6 (QB res) 0 0 28 [(0, vr x0), (1, vr x1), (2, vi x2), (3, vr x3), (4, vl x4), (6, vi x6), (7, vi x7), (8, vi x8)] [] h) (x0 : Nat) (x1 : Nat) (x2 : Int) (x3 : Nat) (x4 : Int) (x6 : Int) (x7 : Int) (x8 : Int) (x9 : Int) (s0 : Int) (h : Hp) (rx2 : R32 x2) (rx4 : R64 x4) (rx6 : R32 x6) (rx7 : R32 x7) (rx8 : R32 x8) (rx9 : R32 x9) (rs0 : R32 s0) (H : fX4_makeBestMove_65 k28 x0 x1 x2 x3 x4 x6 x7 x8 x9 s0 h = some res) : J L xs l RX4 cX4_makeBestMove 15 false 6 (QB res) 0 0 65 [(0, vr x0), (1, vr x1), (2, vi x2), (3, vr x3), (4, vl x4), (6, vi x6), (7, vi x7), (8, vi x8), (9, vi x9)] [vi s0] h := by
  unfold fX4_makeBestMove_65 at H
  refine j_istore (lv' := [(0, vr x0), (1, vr x1), (2, vi x2), (3, vr x3), (4, vl x4), (6, vi x6), (7, vi x7), (8, vi x8), (9, vi x9), (10, vi s0)]) (pc' := 67) dX4_makeBestMove_65 rfl (by decide) [1, 2, 3, 4, 5, 6, 7, 8, 9, 0] rfl ?_
  refine j_iload (pc' := 69) dX4_makeBestMove_67 rfl 9 rfl ?_
  refine j_if_eq (tgt := 81) (pc' := 72) dX4_makeBestMove_69 (by decide) rfl rs0 (fun c1 => ?_) (fun c1 => ?_)
  · rw [if_pos c1] at H
    refine j_aload_n (i := 3) (pc' := 82) dX4_makeBestMove_81 rfl rfl 3 rfl ?_
    obtain ⟨v2, e2, H⟩ := bs H
    refine j_getI (pc' := 85) dX4_makeBestMove_82 rfl fl_X4_39 e2 (fun r2 => ?_)
    refine j_sub (lv' := [(0, vr x0), (1, vr x1), (2, vi x2), (3, vr x3), (4, vl x4), (6, vi x6), (7, vi x7), (8, vi x8), (9, vi x9)]) [0, 1, 2, 3, 4, 5, 6, 7, 8] rfl ?_
    exact tX4_makeBestMove_85 _ hk28 x0 x1 x2 x3 x4 x6 x7 x8 x9 v2 h rx2 rx4 rx6 rx7 rx8 rx9 r2 H
  · rw [if_neg c1] at H
    refine j_aload_n (i := 3) (pc' := 73) dX4_makeBestMove_72 rfl rfl 3 rfl ?_
    obtain ⟨v3, e3, H⟩ := bs H
    refine j_getI (pc' := 76) dX4_makeBestMove_73 rfl fl_X4_39 e3 (fun r3 => ?_)
    refine j_iconst (pc' := 77) dX4_makeBestMove_76 rfl ?_
    refine j_isub (pc' := 78) dX4_makeBestMove_77 rfl ?_
    refine j_goto (tgt := 85) dX4_makeBestMove_78 (by decide) ?_
    obtain ⟨u4, e4, H⟩ := bs H
    have r4 := c32_R e4
    refine j_sub (lv' := [(0, vr x0), (1, vr x1), (2, vi x2), (3, vr x3), (4, vl x4), (6, vi x6), (7, vi x7), (8, vi x8), (9, vi x9)]) [0, 1, 2, 3, 4, 5, 6, 7, 8] rfl ?_
    exact tX4_makeBestMove_85 _ hk28 x0 x1 x2 x3 x4 x6 x7 x8 x9 (v3 - 1) h rx2 rx4 rx6 rx7 rx8 rx9 r4 H
noncomputable def fX4_makeBestMove_28 : Nat → Nat → Nat → Int → Nat → Int → Int → Int → Int → Hp → Option (Int × Hp)
  | 0, _, _, _, _, _, _, _, _, _ => none
  | n + 1, x0, x1, x2, x3, x4, x6, x7, x8, h => (getI h 6 x1 0).bind fun v1 => if v1 ≤ x8 then (fX4_makeBestMove_151 x3 x6 x7 h) else ((getR h 5 x3 2).bind fun v3 => (ald h 0 v3 x8).bind fun v4 => (getR h 3 x0 0).bind fun v5 => (ald h 0 v5 v4).bind fun v6 => if v6 = (bShl 1 x8) then (fX4_makeBestMove_65 (fX4_makeBestMove_28 n) x0 x1 x2 x3 x4 x6 x7 x8 v4 1 h) else (fX4_makeBestMove_65 (fX4_makeBestMove_28 n) x0 x1 x2 x3 x4 x6 x7 x8 v4 0 h))
theorem tX4_makeBestMove_28 {L : Nat} {xs : Nat → Int32} {l : Launch} {res : Int × Hp} : ∀ (n : Nat) (x0 : Nat) (x1 : Nat) (x2 : Int) (x3 : Nat) (x4 : Int) (x6 : Int) (x7 : Int) (x8 : Int) (h : Hp), R32 x2 → R64 x4 → R32 x6 → R32 x7 → R32 x8 → fX4_makeBestMove_28 n x0 x1 x2 x3 x4 x6 x7 x8 h = some res → J L xs l RX4 cX4_makeBestMove 15 false 6 (QB res) 0 0 28 [(0, vr x0), (1, vr x1), (2, vi x2), (3, vr x3), (4, vl x4), (6, vi x6), (7, vi x7), (8, vi x8)] [] h := by
  intro n
  induction n with
  | zero => intro x0 x1 x2 x3 x4 x6 x7 x8 h rx2 rx4 rx6 rx7 rx8 H; cases H
  | succ n ih =>
    intro x0 x1 x2 x3 x4 x6 x7 x8 h rx2 rx4 rx6 rx7 rx8 H
    rw [fX4_makeBestMove_28] at H
    refine j_iload (pc' := 30) dX4_makeBestMove_28 rfl 7 rfl ?_
    refine j_aload_n (i := 1) (pc' := 31) dX4_makeBestMove_30 rfl rfl 1 rfl ?_
    obtain ⟨v1, e1, H⟩ := bs H
    refine j_getI (pc' := 34) dX4_makeBestMove_31 rfl fl_X4_61 e1 (fun r1 => ?_)
    refine j_icmp_ge (tgt := 151) (pc' := 37) dX4_makeBestMove_34 (by decide) rfl rx8 r1 (fun c2 => ?_) (fun c2 => ?_)
    · rw [if_pos c2] at H
      refine j_sub (lv' := [(3, vr x3), (6, vi x6), (7, vi x7)]) [3, 5, 6] rfl ?_
      exact tX4_makeBestMove_151   x3 x6 x7 h rx6 rx7 H
    · rw [if_neg c2] at H
      refine j_aload_n (i := 3) (pc' := 38) dX4_makeBestMove_37 rfl rfl 3 rfl ?_
      obtain ⟨v3, e3, H⟩ := bs H
      refine j_getR (pc' := 41) dX4_makeBestMove_38 rfl fl_X4_64 e3 (fun r3 => ?_)
      refine j_iload (pc' := 43) dX4_makeBestMove_41 rfl 7 rfl ?_
      obtain ⟨v4, e4, H⟩ := bs H
      refine j_iald (pc' := 44) dX4_makeBestMove_43 rfl e4 (fun r4 => ?_)
      refine j_istore (lv' := [(0, vr x0), (1, vr x1), (2, vi x2), (3, vr x3), (4, vl x4), (6, vi x6), (7, vi x7), (8, vi x8), (9, vi v4)]) (pc' := 46) dX4_makeBestMove_44 rfl (by decide) [1, 2, 3, 4, 5, 6, 7, 8, 0] rfl ?_
      refine j_aload_n (i := 0) (pc' := 47) dX4_makeBestMove_46 rfl rfl 0 rfl ?_
      obtain ⟨v5, e5, H⟩ := bs H
      refine j_getR (pc' := 50) dX4_makeBestMove_47 rfl fl_X4_9 e5 (fun r5 => ?_)
      refine j_iload (pc' := 52) dX4_makeBestMove_50 rfl 8 rfl ?_
      obtain ⟨v6, e6, H⟩ := bs H
      refine j_iald (pc' := 53) dX4_makeBestMove_52 rfl e6 (fun r6 => ?_)
      refine j_iconst (pc' := 54) dX4_makeBestMove_53 rfl ?_
      refine j_iload (pc' := 56) dX4_makeBestMove_54 rfl 7 rfl ?_
      refine j_ishl (pc' := 57) dX4_makeBestMove_56 rfl ?_
      refine j_icmp_ne (tgt := 64) (pc' := 60) dX4_makeBestMove_57 (by decide) rfl r6 (R32_to _) (fun c7 => ?_) (fun c7 => ?_)
      · rw [if_neg c7] at H
        refine j_iconst (pc' := 65) dX4_makeBestMove_64 rfl ?_
        exact tX4_makeBestMove_65 _ ih x0 x1 x2 x3 x4 x6 x7 x8 v4 0 h rx2 rx4 rx6 rx7 rx8 r4 ⟨by decide, by decide⟩ H
      · rw [if_pos c7] at H
        refine j_iconst (pc' := 61) dX4_makeBestMove_60 rfl ?_
        refine j_goto (tgt := 65) dX4_makeBestMove_61 (by decide) ?_
        exact tX4_makeBestMove_65 _ ih x0 x1 x2 x3 x4 x6 x7 x8 v4 1 h rx2 rx4 rx6 rx7 rx8 r4 ⟨by decide, by decide⟩ H
noncomputable def fX4_makeBestMove (a0 : Nat) (a1 : Nat) (a2 : Int) (h : Hp) : Option (Int × Hp) :=
  (cob h 3 a0).bind fun _ => (fX4_weighHeaps a0 a1 a2 h).bind fun h2 => (getR h2 6 a1 5).bind fun v3 => (fX0_ofParting a1 a2 v3 h2).bind fun p4 => fX4_makeBestMove_28 FU a0 a1 a2 v3 p4.1 (-1) (-1) 0 p4.2
theorem tX4_makeBestMove {L : Nat} {xs : Nat → Int32} {l : Launch} {res : Int × Hp} (a0 : Nat) (a1 : Nat) (a2 : Int) (h : Hp) (ra2 : R32 a2) (H : fX4_makeBestMove a0 a1 a2 h = some res) : J L xs l RX4 cX4_makeBestMove 15 false 6 (QB res) 0 0 0 (alv 0 [vr a0, vr a1, vi a2]) [] h := by
  unfold fX4_makeBestMove at H
  show J L xs l RX4 cX4_makeBestMove 15 false 6 (QB res) 0 0 0 [(0, vr a0), (1, vr a1), (2, vi a2)] [] h
  refine j_aload_n (i := 0) (pc' := 1) dX4_makeBestMove_0 rfl rfl 0 rfl ?_
  refine j_aload_n (i := 1) (pc' := 2) dX4_makeBestMove_1 rfl rfl 1 rfl ?_
  refine j_iload_n (i := 2) (pc' := 3) dX4_makeBestMove_2 rfl rfl 2 rfl ?_
  obtain ⟨u1, e1, H⟩ := bs H
  obtain ⟨h2, e2, H⟩ := bs H
  refine j_cVv (y := yX4_weighHeaps) (dY := 5) (vs := [vr a1, vi a2]) (st := []) (q := a0) (pc' := 6) dX4_makeBestMove_3 rfl ymX4_weighHeaps yvX4_weighHeaps ml_X4_53 (by decide) rfl (Nat.le_of_ble_eq_true rfl) (Nat.le_of_ble_eq_true rfl) e1 (tX4_weighHeaps a0 a1 a2 h ra2 e2) (fun z2 => ?_)
  refine j_aload_n (i := 1) (pc' := 7) dX4_makeBestMove_6 rfl rfl 1 rfl ?_
  obtain ⟨v3, e3, H⟩ := bs H
  refine j_getR (pc' := 10) dX4_makeBestMove_7 rfl fl_X4_33 e3 (fun r3 => ?_)
  refine j_astore_n (i := 3) (lv' := [(0, vr a0), (1, vr a1), (2, vi a2), (3, vr v3)]) (pc' := 11) dX4_makeBestMove_10 rfl rfl (by decide) [1, 2, 3, 0] rfl ?_
  refine j_aload_n (i := 1) (pc' := 12) dX4_makeBestMove_11 rfl rfl 1 rfl ?_
  refine j_iload_n (i := 2) (pc' := 13) dX4_makeBestMove_12 rfl rfl 2 rfl ?_
  refine j_aload_n (i := 3) (pc' := 14) dX4_makeBestMove_13 rfl rfl 3 rfl ?_
  obtain ⟨p4, e4, H⟩ := bs H
  refine j_cSl (y := yX0_ofParting) (dY := 5) (vs := [vr a1, vi a2, vr v3]) (st := []) (pc' := 17) dX4_makeBestMove_14 rfl ymX0_ofParting ysX0_ofParting ml_X4_57 (by decide) rfl (Nat.le_of_ble_eq_true rfl) (Nat.le_of_ble_eq_true rfl) (tX0_ofParting a1 a2 v3 h2 ra2 e4) (fun r4 z4 => ?_)
  refine j_lstore (lv' := [(0, vr a0), (1, vr a1), (2, vi a2), (3, vr v3), (4, vl p4.1)]) (pc' := 19) dX4_makeBestMove_17 rfl (by decide) [1, 2, 3, 4, 0] rfl ?_
  refine j_iconst (pc' := 20) dX4_makeBestMove_19 rfl ?_
  refine j_istore (lv' := [(0, vr a0), (1, vr a1), (2, vi a2), (3, vr v3), (4, vl p4.1), (6, vi (-1))]) (pc' := 22) dX4_makeBestMove_20 rfl (by decide) [1, 2, 3, 4, 5, 0] rfl ?_
  refine j_iconst (pc' := 23) dX4_makeBestMove_22 rfl ?_
  refine j_istore (lv' := [(0, vr a0), (1, vr a1), (2, vi a2), (3, vr v3), (4, vl p4.1), (6, vi (-1)), (7, vi (-1))]) (pc' := 25) dX4_makeBestMove_23 rfl (by decide) [1, 2, 3, 4, 5, 6, 0] rfl ?_
  refine j_iconst (pc' := 26) dX4_makeBestMove_25 rfl ?_
  refine j_istore (lv' := [(0, vr a0), (1, vr a1), (2, vi a2), (3, vr v3), (4, vl p4.1), (6, vi (-1)), (7, vi (-1)), (8, vi 0)]) (pc' := 28) dX4_makeBestMove_26 rfl (by decide) [1, 2, 3, 4, 5, 6, 7, 0] rfl ?_
  exact tX4_makeBestMove_28   FU a0 a1 a2 v3 p4.1 (-1) (-1) 0 p4.2 ra2 r4 ⟨by decide, by decide⟩ ⟨by decide, by decide⟩ ⟨by decide, by decide⟩ H
