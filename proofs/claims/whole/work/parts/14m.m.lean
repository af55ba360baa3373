-- X12_join
noncomputable def fX12_join_79  (h : Hp) : Option (Hp) :=
  some h
theorem tX12_join_79 {L : Nat} {xs : Nat → Int32} {l : Launch} {res : Hp}  (h : Hp)  (H : fX12_join_79  h = some res) : J L xs l RX12 cX12_join 4 false 2 (QV res) 0 0 79 [] [] h := by
  unfold fX12_join_79 at H
  obtain rfl := Option.some.inj H
  exact j_vret dX12_join_79 ⟨rfl, rfl⟩
noncomputable def fX12_join_73 (k25 : Nat → Int → Int → Hp → Option (Hp)) (x0 : Nat) (x1 : Int) (x2 : Int) (h : Hp) : Option (Hp) :=
  (c32 (x2 + 1)).bind fun _ => k25 x0 x1 (x2 + 1) h
theorem tX12_join_73 {L : Nat} {xs : Nat → Int32} {l : Launch} {res : Hp} (k25 : Nat → Int → Int → Hp → Option (Hp)) (hk25 : ∀ (x0 : Nat) (x1 : Int) (x2 : Int) (h : Hp), R32 x1 → R32 x2 → k25 x0 x1 x2 h = some res → J L xs l RX12 cX12_join 4 false 2 (QV res) 0 0 25 [(0, vr x0), (1, vi x1), (2, vi x2)] [] h) (x0 : Nat) (x1 : Int) (x2 : Int) (h : Hp) (rx1 : R32 x1) (rx2 : R32 x2) (H : fX12_join_73 k25 x0 x1 x2 h = some res) : J L xs l RX12 cX12_join 4 false 2 (QV res) 0 0 73 [(0, vr x0), (1, vi x1), (2, vi x2)] [] h := by
  unfold fX12_join_73 at H
  obtain ⟨u1, e1, H⟩ := bs H
  have r1 := c32_R e1
  refine j_iinc (k0 := 2) (lv' := [(0, vr x0), (1, vi x1), (2, vi (x2 + 1))]) (pc' := 76) dX12_join_73 rfl rfl (by decide) [1, 2, 0] rfl ?_
  refine j_goto (tgt := 25) dX12_join_76 (by decide) ?_
  exact hk25 x0 x1 (x2 + 1) h rx1 r1 H
noncomputable def fX12_join_67 (k25 : Nat → Int → Int → Hp → Option (Hp)) (k32 : Nat → Int → Int → Int → Hp → Option (Hp)) (x0 : Nat) (x1 : Int) (x2 : Int) (x3 : Int) (h : Hp) : Option (Hp) :=
  (c32 (x3 + 1)).bind fun _ => k32 x0 x1 x2 (x3 + 1) h
theorem tX12_join_67 {L : Nat} {xs : Nat → Int32} {l : Launch} {res : Hp} (k25 : Nat → Int → Int → Hp → Option (Hp)) (k32 : Nat → Int → Int → Int → Hp → Option (Hp)) (hk25 : ∀ (x0 : Nat) (x1 : Int) (x2 : Int) (h : Hp), R32 x1 → R32 x2 → k25 x0 x1 x2 h = some res → J L xs l RX12 cX12_join 4 false 2 (QV res) 0 0 25 [(0, vr x0), (1, vi x1), (2, vi x2)] [] h) (hk32 : ∀ (x0 : Nat) (x1 : Int) (x2 : Int) (x3 : Int) (h : Hp), R32 x1 → R32 x2 → R32 x3 → k32 x0 x1 x2 x3 h = some res → J L xs l RX12 cX12_join 4 false 2 (QV res) 0 0 32 [(0, vr x0), (1, vi x1), (2, vi x2), (3, vi x3)] [] h) (x0 : Nat) (x1 : Int) (x2 : Int) (x3 : Int) (h : Hp) (rx1 : R32 x1) (rx2 : R32 x2) (rx3 : R32 x3) (H : fX12_join_67 k25 k32 x0 x1 x2 x3 h = some res) : J L xs l RX12 cX12_join 4 false 2 (QV res) 0 0 67 [(0, vr x0), (1, vi x1), (2, vi x2), (3, vi x3)] [] h := by
  unfold fX12_join_67 at H
  obtain ⟨u1, e1, H⟩ := bs H
  have r1 := c32_R e1
  refine j_iinc (k0 := 3) (lv' := [(0, vr x0), (1, vi x1), (2, vi x2), (3, vi (x3 + 1))]) (pc' := 70) dX12_join_67 rfl rfl (by decide) [1, 2, 3, 0] rfl ?_
  refine j_goto (tgt := 32) dX12_join_70 (by decide) ?_
  exact hk32 x0 x1 x2 (x3 + 1) h rx1 rx2 r1 H
noncomputable def fX12_join_32 (k25 : Nat → Int → Int → Hp → Option (Hp)) : Nat → Nat → Int → Int → Int → Hp → Option (Hp)
  | 0, _, _, _, _, _ => none
  | n + 1, x0, x1, x2, x3, h => (cob h 11 x0).bind fun _ => (fX12_n x0 h).bind fun p2 => if p2.1 ≤ x3 then (fX12_join_73 k25 x0 x1 x2 p2.2) else ((getR p2.2 11 x0 20).bind fun v4 => (ald p2.2 0 v4 x3).bind fun v5 => (getR p2.2 11 x0 13).bind fun v6 => (ald p2.2 0 v6 x2).bind fun v7 => if v5 = v7 then ((getR p2.2 11 x0 20).bind fun v9 => (getR p2.2 11 x0 12).bind fun v10 => (ald p2.2 0 v10 x2).bind fun v11 => (ast p2.2 0 v9 x3 v11).bind fun h12 => fX12_join_67 k25 (fX12_join_32 k25 n) x0 x1 x2 x3 h12) else (fX12_join_67 k25 (fX12_join_32 k25 n) x0 x1 x2 x3 p2.2))
theorem tX12_join_32 {L : Nat} {xs : Nat → Int32} {l : Launch} {res : Hp} (k25 : Nat → Int → Int → Hp → Option (Hp)) (hk25 : ∀ (x0 : Nat) (x1 : Int) (x2 : Int) (h : Hp), R32 x1 → R32 x2 → k25 x0 x1 x2 h = some res → J L xs l RX12 cX12_join 4 false 2 (QV res) 0 0 25 [(0, vr x0), (1, vi x1), (2, vi x2)] [] h) : ∀ (n : Nat) (x0 : Nat) (x1 : Int) (x2 : Int) (x3 : Int) (h : Hp), R32 x1 → R32 x2 → R32 x3 → fX12_join_32 k25 n x0 x1 x2 x3 h = some res → J L xs l RX12 cX12_join 4 false 2 (QV res) 0 0 32 [(0, vr x0), (1, vi x1), (2, vi x2), (3, vi x3)] [] h := by
  intro n
  induction n with
  | zero => intro x0 x1 x2 x3 h rx1 rx2 rx3 H; cases H
  | succ n ih =>
    intro x0 x1 x2 x3 h rx1 rx2 rx3 H
    rw [fX12_join_32] at H
    refine j_iload_n (i := 3) (pc' := 33) dX12_join_32 rfl rfl 3 rfl ?_
    refine j_aload_n (i := 0) (pc' := 34) dX12_join_33 rfl rfl 0 rfl ?_
    obtain ⟨u1, e1, H⟩ := bs H
    obtain ⟨p2, e2, H⟩ := bs H
    refine j_cVi (y := yX12_n) (dY := 1) (vs := []) (st := [vi x3]) (q := x0) (pc' := 37) dX12_join_34 rfl ymX12_n yvX12_n ml_X12_90 (by decide) rfl (Nat.le_of_ble_eq_true rfl) (Nat.le_of_ble_eq_true rfl) e1 (tX12_n x0 h e2) (fun r2 z2 => ?_)
    refine j_icmp_ge (tgt := 73) (pc' := 40) dX12_join_37 (by decide) rfl rx3 r2 (fun c3 => ?_) (fun c3 => ?_)
    · rw [if_pos c3] at H
      refine j_sub (lv' := [(0, vr x0), (1, vi x1), (2, vi x2)]) [0, 1, 2] rfl ?_
      exact tX12_join_73 _ hk25 x0 x1 x2 p2.2 rx1 rx2 H
    · rw [if_neg c3] at H
      refine j_aload_n (i := 0) (pc' := 41) dX12_join_40 rfl rfl 0 rfl ?_
      obtain ⟨v4, e4, H⟩ := bs H
      refine j_getR (pc' := 44) dX12_join_41 rfl fl_X12_58 e4 (fun r4 => ?_)
      refine j_iload_n (i := 3) (pc' := 45) dX12_join_44 rfl rfl 3 rfl ?_
      obtain ⟨v5, e5, H⟩ := bs H
      refine j_iald (pc' := 46) dX12_join_45 rfl e5 (fun r5 => ?_)
      refine j_aload_n (i := 0) (pc' := 47) dX12_join_46 rfl rfl 0 rfl ?_
      obtain ⟨v6, e6, H⟩ := bs H
      refine j_getR (pc' := 50) dX12_join_47 rfl fl_X12_43 e6 (fun r6 => ?_)
      refine j_iload_n (i := 2) (pc' := 51) dX12_join_50 rfl rfl 2 rfl ?_
      obtain ⟨v7, e7, H⟩ := bs H
      refine j_iald (pc' := 52) dX12_join_51 rfl e7 (fun r7 => ?_)
      refine j_icmp_ne (tgt := 67) (pc' := 55) dX12_join_52 (by decide) rfl r5 r7 (fun c8 => ?_) (fun c8 => ?_)
      · rw [if_neg c8] at H
        exact tX12_join_67 _ _ hk25 ih x0 x1 x2 x3 p2.2 rx1 rx2 rx3 H
      · rw [if_pos c8] at H
        refine j_aload_n (i := 0) (pc' := 56) dX12_join_55 rfl rfl 0 rfl ?_
        obtain ⟨v9, e9, H⟩ := bs H
        refine j_getR (pc' := 59) dX12_join_56 rfl fl_X12_58 e9 (fun r9 => ?_)
        refine j_iload_n (i := 3) (pc' := 60) dX12_join_59 rfl rfl 3 rfl ?_
        refine j_aload_n (i := 0) (pc' := 61) dX12_join_60 rfl rfl 0 rfl ?_
        obtain ⟨v10, e10, H⟩ := bs H
        refine j_getR (pc' := 64) dX12_join_61 rfl fl_X12_40 e10 (fun r10 => ?_)
        refine j_iload_n (i := 2) (pc' := 65) dX12_join_64 rfl rfl 2 rfl ?_
        obtain ⟨v11, e11, H⟩ := bs H
        refine j_iald (pc' := 66) dX12_join_65 rfl e11 (fun r11 => ?_)
        obtain ⟨h12, e12, H⟩ := bs H
        refine j_iast (pc' := 67) dX12_join_66 rfl r11 e12 ?_
        exact tX12_join_67 _ _ hk25 ih x0 x1 x2 x3 h12 rx1 rx2 rx3 H
noncomputable def fX12_join_25 : Nat → Nat → Int → Int → Hp → Option (Hp)
  | 0, _, _, _, _ => none
  | n + 1, x0, x1, x2, h => if x1 ≤ x2 then (fX12_join_79 h) else (fX12_join_32 (fX12_join_25 n) FU x0 x1 x2 0 h)
theorem tX12_join_25 {L : Nat} {xs : Nat → Int32} {l : Launch} {res : Hp} : ∀ (n : Nat) (x0 : Nat) (x1 : Int) (x2 : Int) (h : Hp), R32 x1 → R32 x2 → fX12_join_25 n x0 x1 x2 h = some res → J L xs l RX12 cX12_join 4 false 2 (QV res) 0 0 25 [(0, vr x0), (1, vi x1), (2, vi x2)] [] h := by
  intro n
  induction n with
  | zero => intro x0 x1 x2 h rx1 rx2 H; cases H
  | succ n ih =>
    intro x0 x1 x2 h rx1 rx2 H
    rw [fX12_join_25] at H
    refine j_iload_n (i := 2) (pc' := 26) dX12_join_25 rfl rfl 2 rfl ?_
    refine j_iload_n (i := 1) (pc' := 27) dX12_join_26 rfl rfl 1 rfl ?_
    refine j_icmp_ge (tgt := 79) (pc' := 30) dX12_join_27 (by decide) rfl rx2 rx1 (fun c1 => ?_) (fun c1 => ?_)
    · rw [if_pos c1] at H
      refine j_sub (lv' := []) [] rfl ?_
      exact tX12_join_79   h  H
    · rw [if_neg c1] at H
      refine j_iconst (pc' := 31) dX12_join_30 rfl ?_
      refine j_istore_n (i := 3) (lv' := [(0, vr x0), (1, vi x1), (2, vi x2), (3, vi 0)]) (pc' := 32) dX12_join_31 rfl rfl (by decide) [1, 2, 3, 0] rfl ?_
      exact tX12_join_32 _ ih FU x0 x1 x2 0 h rx1 rx2 ⟨by decide, by decide⟩ H
noncomputable def fX12_join_23 (x0 : Nat) (x1 : Int) (h : Hp) : Option (Hp) :=
  fX12_join_25 FU x0 x1 0 h
theorem tX12_join_23 {L : Nat} {xs : Nat → Int32} {l : Launch} {res : Hp} (x0 : Nat) (x1 : Int) (h : Hp) (rx1 : R32 x1) (H : fX12_join_23 x0 x1 h = some res) : J L xs l RX12 cX12_join 4 false 2 (QV res) 0 0 23 [(0, vr x0), (1, vi x1)] [] h := by
  unfold fX12_join_23 at H
  refine j_iconst (pc' := 24) dX12_join_23 rfl ?_
  refine j_istore_n (i := 2) (lv' := [(0, vr x0), (1, vi x1), (2, vi 0)]) (pc' := 25) dX12_join_24 rfl rfl (by decide) [1, 2, 0] rfl ?_
  exact tX12_join_25   FU x0 x1 0 h rx1 ⟨by decide, by decide⟩ H
noncomputable def fX12_join_2 : Nat → Nat → Int → Int → Hp → Option (Hp)
  | 0, _, _, _, _ => none
  | n + 1, x0, x1, x2, h => (cob h 11 x0).bind fun _ => (fX12_n x0 h).bind fun p2 => if p2.1 ≤ x2 then (fX12_join_23 x0 x1 p2.2) else ((getR p2.2 11 x0 20).bind fun v4 => (ast p2.2 0 v4 x2 x2).bind fun h5 => (c32 (x2 + 1)).bind fun _ => fX12_join_2 n x0 x1 (x2 + 1) h5)
theorem tX12_join_2 {L : Nat} {xs : Nat → Int32} {l : Launch} {res : Hp} : ∀ (n : Nat) (x0 : Nat) (x1 : Int) (x2 : Int) (h : Hp), R32 x1 → R32 x2 → fX12_join_2 n x0 x1 x2 h = some res → J L xs l RX12 cX12_join 4 false 2 (QV res) 0 0 2 [(0, vr x0), (1, vi x1), (2, vi x2)] [] h := by
  intro n
  induction n with
  | zero => intro x0 x1 x2 h rx1 rx2 H; cases H
  | succ n ih =>
    intro x0 x1 x2 h rx1 rx2 H
    rw [fX12_join_2] at H
    refine j_iload_n (i := 2) (pc' := 3) dX12_join_2 rfl rfl 2 rfl ?_
    refine j_aload_n (i := 0) (pc' := 4) dX12_join_3 rfl rfl 0 rfl ?_
    obtain ⟨u1, e1, H⟩ := bs H
    obtain ⟨p2, e2, H⟩ := bs H
    refine j_cVi (y := yX12_n) (dY := 1) (vs := []) (st := [vi x2]) (q := x0) (pc' := 7) dX12_join_4 rfl ymX12_n yvX12_n ml_X12_90 (by decide) rfl (Nat.le_of_ble_eq_true rfl) (Nat.le_of_ble_eq_true rfl) e1 (tX12_n x0 h e2) (fun r2 z2 => ?_)
    refine j_icmp_ge (tgt := 23) (pc' := 10) dX12_join_7 (by decide) rfl rx2 r2 (fun c3 => ?_) (fun c3 => ?_)
    · rw [if_pos c3] at H
      refine j_sub (lv' := [(0, vr x0), (1, vi x1)]) [0, 1] rfl ?_
      exact tX12_join_23   x0 x1 p2.2 rx1 H
    · rw [if_neg c3] at H
      refine j_aload_n (i := 0) (pc' := 11) dX12_join_10 rfl rfl 0 rfl ?_
      obtain ⟨v4, e4, H⟩ := bs H
      refine j_getR (pc' := 14) dX12_join_11 rfl fl_X12_58 e4 (fun r4 => ?_)
      refine j_iload_n (i := 2) (pc' := 15) dX12_join_14 rfl rfl 2 rfl ?_
      refine j_iload_n (i := 2) (pc' := 16) dX12_join_15 rfl rfl 2 rfl ?_
      obtain ⟨h5, e5, H⟩ := bs H
      refine j_iast (pc' := 17) dX12_join_16 rfl rx2 e5 ?_
      obtain ⟨u6, e6, H⟩ := bs H
      have r6 := c32_R e6
      refine j_iinc (k0 := 2) (lv' := [(0, vr x0), (1, vi x1), (2, vi (x2 + 1))]) (pc' := 20) dX12_join_17 rfl rfl (by decide) [1, 2, 0] rfl ?_
      refine j_goto (tgt := 2) dX12_join_20 (by decide) ?_
      exact ih x0 x1 (x2 + 1) h5 rx1 r6 H
noncomputable def fX12_join (a0 : Nat) (a1 : Int) (h : Hp) : Option (Hp) :=
  fX12_join_2 FU a0 a1 0 h
theorem tX12_join {L : Nat} {xs : Nat → Int32} {l : Launch} {res : Hp} (a0 : Nat) (a1 : Int) (h : Hp) (ra1 : R32 a1) (H : fX12_join a0 a1 h = some res) : J L xs l RX12 cX12_join 4 false 2 (QV res) 0 0 0 (alv 0 [vr a0, vi a1]) [] h := by
  unfold fX12_join at H
  show J L xs l RX12 cX12_join 4 false 2 (QV res) 0 0 0 [(0, vr a0), (1, vi a1)] [] h
  refine j_iconst (pc' := 1) dX12_join_0 rfl ?_
  refine j_istore_n (i := 2) (lv' := [(0, vr a0), (1, vi a1), (2, vi 0)]) (pc' := 2) dX12_join_1 rfl rfl (by decide) [1, 2, 0] rfl ?_
  exact tX12_join_2   FU a0 a1 0 h ra1 ⟨by decide, by decide⟩ H
-- X12_height
noncomputable def fX12_height_21 (x0 : Nat) (h : Hp) : Option (Int × Hp) :=
  (cob h 11 x0).bind fun _ => (fX12_no x0 1 h).bind fun p2 => some (p2.1, p2.2)
theorem tX12_height_21 {L : Nat} {xs : Nat → Int32} {l : Launch} {res : Int × Hp} (x0 : Nat) (h : Hp)  (H : fX12_height_21 x0 h = some res) : J L xs l RX12 cX12_height 4 false 3 (QI res) 0 0 21 [(0, vr x0)] [] h := by
  unfold fX12_height_21 at H
  refine j_aload_n (i := 0) (pc' := 22) dX12_height_21 rfl rfl 0 rfl ?_
  refine j_iconst (pc' := 23) dX12_height_22 rfl ?_
  obtain ⟨u1, e1, H⟩ := bs H
  obtain ⟨p2, e2, H⟩ := bs H
  refine j_cVi (y := yX12_no) (dY := 1) (vs := [vi 1]) (st := []) (q := x0) (pc' := 26) dX12_height_23 rfl ymX12_no yvX12_no ml_X12_98 (by decide) rfl (Nat.le_of_ble_eq_true rfl) (Nat.le_of_ble_eq_true rfl) e1 (tX12_no x0 1 h ⟨by decide, by decide⟩ e2) (fun r2 z2 => ?_)
  obtain rfl := Option.some.inj H
  exact j_iret dX12_height_26 r2 ⟨rfl, rfl⟩
noncomputable def fX12_height_93  (h : Hp) : Option (Int × Hp) :=
  some (0, h)
theorem tX12_height_93 {L : Nat} {xs : Nat → Int32} {l : Launch} {res : Int × Hp}  (h : Hp)  (H : fX12_height_93  h = some res) : J L xs l RX12 cX12_height 4 false 3 (QI res) 0 0 93 [] [] h := by
  unfold fX12_height_93 at H
  refine j_iconst (pc' := 94) dX12_height_93 rfl ?_
  obtain rfl := Option.some.inj H
  exact j_iret dX12_height_94 ⟨by decide, by decide⟩ ⟨rfl, rfl⟩
noncomputable def fX12_height_80 (x0 : Nat) (x3 : Int) (h : Hp) : Option (Int × Hp) :=
  (getR h 11 x0 14).bind fun v1 => (ald h 0 v1 x3).bind fun v2 => some (v2, h)
theorem tX12_height_80 {L : Nat} {xs : Nat → Int32} {l : Launch} {res : Int × Hp} (x0 : Nat) (x3 : Int) (h : Hp) (rx3 : R32 x3) (H : fX12_height_80 x0 x3 h = some res) : J L xs l RX12 cX12_height 4 false 3 (QI res) 0 0 80 [(0, vr x0), (3, vi x3)] [] h := by
  unfold fX12_height_80 at H
  refine j_aload_n (i := 0) (pc' := 81) dX12_height_80 rfl rfl 0 rfl ?_
  obtain ⟨v1, e1, H⟩ := bs H
  refine j_getR (pc' := 84) dX12_height_81 rfl fl_X12_46 e1 (fun r1 => ?_)
  refine j_iload_n (i := 3) (pc' := 85) dX12_height_84 rfl rfl 1 rfl ?_
  obtain ⟨v2, e2, H⟩ := bs H
  refine j_iald (pc' := 86) dX12_height_85 rfl e2 (fun r2 => ?_)
  obtain rfl := Option.some.inj H
  exact j_iret dX12_height_86 r2 ⟨rfl, rfl⟩
noncomputable def fX12_height_50 : Nat → Nat → Int → Int → Int → Hp → Option (Int × Hp)
  | 0, _, _, _, _, _ => none
  | n + 1, x0, x1, x2, x3, h => (getI h 11 x0 11).bind fun v1 => if v1 ≤ x3 then (fX12_height_93 h) else ((c32 (x3 + 1)).bind fun _ => (cob h 11 x0).bind fun _ => (fX12_join x0 (x3 + 1) h).bind fun h5 => (getR h5 11 x0 20).bind fun v6 => (ald h5 0 v6 x1).bind fun v7 => (getR h5 11 x0 20).bind fun v8 => (ald h5 0 v8 x2).bind fun v9 => if v7 = v9 then (fX12_height_80 x0 x3 h5) else (fX12_height_50 n x0 x1 x2 (x3 + 1) h5))
theorem tX12_height_50 {L : Nat} {xs : Nat → Int32} {l : Launch} {res : Int × Hp} : ∀ (n : Nat) (x0 : Nat) (x1 : Int) (x2 : Int) (x3 : Int) (h : Hp), R32 x1 → R32 x2 → R32 x3 → fX12_height_50 n x0 x1 x2 x3 h = some res → J L xs l RX12 cX12_height 4 false 3 (QI res) 0 0 50 [(0, vr x0), (1, vi x1), (2, vi x2), (3, vi x3)] [] h := by
  intro n
  induction n with
  | zero => intro x0 x1 x2 x3 h rx1 rx2 rx3 H; cases H
  | succ n ih =>
    intro x0 x1 x2 x3 h rx1 rx2 rx3 H
    rw [fX12_height_50] at H
    refine j_iload_n (i := 3) (pc' := 51) dX12_height_50 rfl rfl 3 rfl ?_
    refine j_aload_n (i := 0) (pc' := 52) dX12_height_51 rfl rfl 0 rfl ?_
    obtain ⟨v1, e1, H⟩ := bs H
    refine j_getI (pc' := 55) dX12_height_52 rfl fl_X12_37 e1 (fun r1 => ?_)
    refine j_icmp_ge (tgt := 93) (pc' := 58) dX12_height_55 (by decide) rfl rx3 r1 (fun c2 => ?_) (fun c2 => ?_)
    · rw [if_pos c2] at H
      refine j_sub (lv' := []) [] rfl ?_
      exact tX12_height_93   h  H
    · rw [if_neg c2] at H
      refine j_aload_n (i := 0) (pc' := 59) dX12_height_58 rfl rfl 0 rfl ?_
      refine j_iload_n (i := 3) (pc' := 60) dX12_height_59 rfl rfl 3 rfl ?_
      refine j_iconst (pc' := 61) dX12_height_60 rfl ?_
      refine j_iadd (pc' := 62) dX12_height_61 rfl ?_
      obtain ⟨u3, e3, H⟩ := bs H
      have r3 := c32_R e3
      obtain ⟨u4, e4, H⟩ := bs H
      obtain ⟨h5, e5, H⟩ := bs H
      refine j_cVv (y := yX12_join) (dY := 2) (vs := [vi (x3 + 1)]) (st := []) (q := x0) (pc' := 65) dX12_height_62 rfl ymX12_join yvX12_join ml_X12_208 (by decide) rfl (Nat.le_of_ble_eq_true rfl) (Nat.le_of_ble_eq_true rfl) e4 (tX12_join x0 (x3 + 1) h r3 e5) (fun z5 => ?_)
      refine j_aload_n (i := 0) (pc' := 66) dX12_height_65 rfl rfl 0 rfl ?_
      obtain ⟨v6, e6, H⟩ := bs H
      refine j_getR (pc' := 69) dX12_height_66 rfl fl_X12_58 e6 (fun r6 => ?_)
      refine j_iload_n (i := 1) (pc' := 70) dX12_height_69 rfl rfl 1 rfl ?_
      obtain ⟨v7, e7, H⟩ := bs H
      refine j_iald (pc' := 71) dX12_height_70 rfl e7 (fun r7 => ?_)
      refine j_aload_n (i := 0) (pc' := 72) dX12_height_71 rfl rfl 0 rfl ?_
      obtain ⟨v8, e8, H⟩ := bs H
      refine j_getR (pc' := 75) dX12_height_72 rfl fl_X12_58 e8 (fun r8 => ?_)
      refine j_iload_n (i := 2) (pc' := 76) dX12_height_75 rfl rfl 2 rfl ?_
      obtain ⟨v9, e9, H⟩ := bs H
      refine j_iald (pc' := 77) dX12_height_76 rfl e9 (fun r9 => ?_)
      refine j_icmp_ne (tgt := 87) (pc' := 80) dX12_height_77 (by decide) rfl r7 r9 (fun c10 => ?_) (fun c10 => ?_)
      · rw [if_neg c10] at H
        refine j_iinc (k0 := 3) (lv' := [(0, vr x0), (1, vi x1), (2, vi x2), (3, vi (x3 + 1))]) (pc' := 90) dX12_height_87 rfl rfl (by decide) [1, 2, 3, 0] rfl ?_
        refine j_goto (tgt := 50) dX12_height_90 (by decide) ?_
        exact ih x0 x1 x2 (x3 + 1) h5 rx1 rx2 r3 H
      · rw [if_pos c10] at H
        refine j_sub (lv' := [(0, vr x0), (3, vi x3)]) [0, 3] rfl ?_
        exact tX12_height_80   x0 x3 h5 rx3 H
noncomputable def fX12_height (a0 : Nat) (a1 : Int) (a2 : Int) (h : Hp) : Option (Int × Hp) :=
  (putV h 11 a0 19 (vi 0)).bind fun h1 => (cob h1 11 a0).bind fun _ => (fX12_isThing a0 a1 h1).bind fun p3 => if p3.1 = 0 then (fX12_height_21 a0 p3.2) else ((cob p3.2 11 a0).bind fun _ => (fX12_isThing a0 a2 p3.2).bind fun p6 => if p6.1 = 0 then (fX12_height_21 a0 p6.2) else ((getI p6.2 11 a0 11).bind fun v8 => if v8 = (-1) then ((cob p6.2 11 a0).bind fun _ => (fX12_no a0 2 p6.2).bind fun p12 => some (p12.1, p12.2)) else (if a1 = a2 then (some (0, p6.2)) else (fX12_height_50 FU a0 a1 a2 0 p6.2))))
theorem tX12_height {L : Nat} {xs : Nat → Int32} {l : Launch} {res : Int × Hp} (a0 : Nat) (a1 : Int) (a2 : Int) (h : Hp) (ra1 : R32 a1) (ra2 : R32 a2) (H : fX12_height a0 a1 a2 h = some res) : J L xs l RX12 cX12_height 4 false 3 (QI res) 0 0 0 (alv 0 [vr a0, vi a1, vi a2]) [] h := by
  unfold fX12_height at H
  show J L xs l RX12 cX12_height 4 false 3 (QI res) 0 0 0 [(0, vr a0), (1, vi a1), (2, vi a2)] [] h
  refine j_aload_n (i := 0) (pc' := 1) dX12_height_0 rfl rfl 0 rfl ?_
  refine j_iconst (pc' := 2) dX12_height_1 rfl ?_
  obtain ⟨h1, e1, H⟩ := bs H
  refine j_putV (pc' := 5) dX12_height_2 rfl fp_X12_77 tI ⟨by decide, by decide⟩ e1 ?_
  refine j_aload_n (i := 0) (pc' := 6) dX12_height_5 rfl rfl 0 rfl ?_
  refine j_iload_n (i := 1) (pc' := 7) dX12_height_6 rfl rfl 1 rfl ?_
  obtain ⟨u2, e2, H⟩ := bs H
  obtain ⟨p3, e3, H⟩ := bs H
  refine j_cVb (y := yX12_isThing) (dY := 2) (vs := [vi a1]) (st := []) (q := a0) (pc' := 10) dX12_height_7 rfl ymX12_isThing yvX12_isThing ml_X12_94 (by decide) rfl (Nat.le_of_ble_eq_true rfl) (Nat.le_of_ble_eq_true rfl) e2 (tX12_isThing a0 a1 h1 ra1 e3) (fun r3 b3 z3 => ?_)
  refine j_if_eq (tgt := 21) (pc' := 13) dX12_height_10 (by decide) rfl r3 (fun c4 => ?_) (fun c4 => ?_)
  · rw [if_pos c4] at H
    refine j_sub (lv' := [(0, vr a0)]) [0] rfl ?_
    exact tX12_height_21   a0 p3.2  H
  · rw [if_neg c4] at H
    refine j_aload_n (i := 0) (pc' := 14) dX12_height_13 rfl rfl 0 rfl ?_
    refine j_iload_n (i := 2) (pc' := 15) dX12_height_14 rfl rfl 2 rfl ?_
    obtain ⟨u5, e5, H⟩ := bs H
    obtain ⟨p6, e6, H⟩ := bs H
    refine j_cVb (y := yX12_isThing) (dY := 2) (vs := [vi a2]) (st := []) (q := a0) (pc' := 18) dX12_height_15 rfl ymX12_isThing yvX12_isThing ml_X12_94 (by decide) rfl (Nat.le_of_ble_eq_true rfl) (Nat.le_of_ble_eq_true rfl) e5 (tX12_isThing a0 a2 p3.2 ra2 e6) (fun r6 b6 z6 => ?_)
    refine j_if_ne (tgt := 27) (pc' := 21) dX12_height_18 (by decide) rfl r6 (fun c7 => ?_) (fun c7 => ?_)
    · rw [if_neg c7] at H
      refine j_aload_n (i := 0) (pc' := 28) dX12_height_27 rfl rfl 0 rfl ?_
      obtain ⟨v8, e8, H⟩ := bs H
      refine j_getI (pc' := 31) dX12_height_28 rfl fl_X12_37 e8 (fun r8 => ?_)
      refine j_iconst (pc' := 32) dX12_height_31 rfl ?_
      refine j_icmp_ne (tgt := 41) (pc' := 35) dX12_height_32 (by decide) rfl r8 ⟨by decide, by decide⟩ (fun c9 => ?_) (fun c9 => ?_)
      · rw [if_neg c9] at H
        refine j_iload_n (i := 1) (pc' := 42) dX12_height_41 rfl rfl 1 rfl ?_
        refine j_iload_n (i := 2) (pc' := 43) dX12_height_42 rfl rfl 2 rfl ?_
        refine j_icmp_ne (tgt := 48) (pc' := 46) dX12_height_43 (by decide) rfl ra1 ra2 (fun c10 => ?_) (fun c10 => ?_)
        · rw [if_neg c10] at H
          refine j_iconst (pc' := 49) dX12_height_48 rfl ?_
          refine j_istore_n (i := 3) (lv' := [(0, vr a0), (1, vi a1), (2, vi a2), (3, vi 0)]) (pc' := 50) dX12_height_49 rfl rfl (by decide) [1, 2, 3, 0] rfl ?_
          exact tX12_height_50   FU a0 a1 a2 0 p6.2 ra1 ra2 ⟨by decide, by decide⟩ H
        · rw [if_pos c10] at H
          refine j_iconst (pc' := 47) dX12_height_46 rfl ?_
          obtain rfl := Option.some.inj H
          exact j_iret dX12_height_47 ⟨by decide, by decide⟩ ⟨rfl, rfl⟩
      · rw [if_pos c9] at H
        refine j_aload_n (i := 0) (pc' := 36) dX12_height_35 rfl rfl 0 rfl ?_
        refine j_iconst (pc' := 37) dX12_height_36 rfl ?_
        obtain ⟨u11, e11, H⟩ := bs H
        obtain ⟨p12, e12, H⟩ := bs H
        refine j_cVi (y := yX12_no) (dY := 1) (vs := [vi 2]) (st := []) (q := a0) (pc' := 40) dX12_height_37 rfl ymX12_no yvX12_no ml_X12_98 (by decide) rfl (Nat.le_of_ble_eq_true rfl) (Nat.le_of_ble_eq_true rfl) e11 (tX12_no a0 2 p6.2 ⟨by decide, by decide⟩ e12) (fun r12 z12 => ?_)
        obtain rfl := Option.some.inj H
        exact j_iret dX12_height_40 r12 ⟨rfl, rfl⟩
    · rw [if_pos c7] at H
      refine j_sub (lv' := [(0, vr a0)]) [0] rfl ?_
      exact tX12_height_21   a0 p6.2  H
-- X12_cut
noncomputable def fX12_cut_49 (x0 : Nat) (x2 : Int) (h : Hp) : Option (Int × Hp) :=
  (cob h 11 x0).bind fun _ => (fX12_join x0 x2 h).bind fun h2 => (getR h2 11 x0 20).bind fun v3 => (cob h2 11 x0).bind fun _ => (fX12_number x0 v3 h2).bind fun p5 => (getR p5.2 11 x0 20).bind fun v6 => (cob p5.2 11 x0).bind fun _ => (fX12_become x0 v6 p5.2).bind fun h8 => some (p5.1, h8)
theorem tX12_cut_49 {L : Nat} {xs : Nat → Int32} {l : Launch} {res : Int × Hp} (x0 : Nat) (x2 : Int) (h : Hp) (rx2 : R32 x2) (H : fX12_cut_49 x0 x2 h = some res) : J L xs l RX12 cX12_cut 4 false 3 (QI res) 0 0 49 [(0, vr x0), (2, vi x2)] [] h := by
  unfold fX12_cut_49 at H
  refine j_aload_n (i := 0) (pc' := 50) dX12_cut_49 rfl rfl 0 rfl ?_
  refine j_iload_n (i := 2) (pc' := 51) dX12_cut_50 rfl rfl 1 rfl ?_
  obtain ⟨u1, e1, H⟩ := bs H
  obtain ⟨h2, e2, H⟩ := bs H
  refine j_cVv (y := yX12_join) (dY := 2) (vs := [vi x2]) (st := []) (q := x0) (pc' := 54) dX12_cut_51 rfl ymX12_join yvX12_join ml_X12_208 (by decide) rfl (Nat.le_of_ble_eq_true rfl) (Nat.le_of_ble_eq_true rfl) e1 (tX12_join x0 x2 h rx2 e2) (fun z2 => ?_)
  refine j_aload_n (i := 0) (pc' := 55) dX12_cut_54 rfl rfl 0 rfl ?_
  refine j_aload_n (i := 0) (pc' := 56) dX12_cut_55 rfl rfl 0 rfl ?_
  obtain ⟨v3, e3, H⟩ := bs H
  refine j_getR (pc' := 59) dX12_cut_56 rfl fl_X12_58 e3 (fun r3 => ?_)
  obtain ⟨u4, e4, H⟩ := bs H
  obtain ⟨p5, e5, H⟩ := bs H
  refine j_cVi (y := yX12_number) (dY := 2) (vs := [vr v3]) (st := []) (q := x0) (pc' := 62) dX12_cut_59 rfl ymX12_number yvX12_number ml_X12_147 (by decide) rfl (Nat.le_of_ble_eq_true rfl) (Nat.le_of_ble_eq_true rfl) e4 (tX12_number x0 v3 h2 e5) (fun r5 z5 => ?_)
  refine j_istore_n (i := 3) (lv' := [(0, vr x0), (2, vi x2), (3, vi p5.1)]) (pc' := 63) dX12_cut_62 rfl rfl (by decide) [1, 2, 0] rfl ?_
  refine j_aload_n (i := 0) (pc' := 64) dX12_cut_63 rfl rfl 0 rfl ?_
  refine j_aload_n (i := 0) (pc' := 65) dX12_cut_64 rfl rfl 0 rfl ?_
  obtain ⟨v6, e6, H⟩ := bs H
  refine j_getR (pc' := 68) dX12_cut_65 rfl fl_X12_58 e6 (fun r6 => ?_)
  obtain ⟨u7, e7, H⟩ := bs H
  obtain ⟨h8, e8, H⟩ := bs H
  refine j_cVv (y := yX12_become) (dY := 2) (vs := [vr v6]) (st := []) (q := x0) (pc' := 71) dX12_cut_68 rfl ymX12_become yvX12_become ml_X12_150 (by decide) rfl (Nat.le_of_ble_eq_true rfl) (Nat.le_of_ble_eq_true rfl) e7 (tX12_become x0 v6 p5.2 e8) (fun z8 => ?_)
  refine j_iload_n (i := 3) (pc' := 72) dX12_cut_71 rfl rfl 2 rfl ?_
  obtain rfl := Option.some.inj H
  exact j_iret dX12_cut_72 r5 ⟨rfl, rfl⟩
noncomputable def fX12_cut_25 : Nat → Nat → Int → Int → Hp → Option (Int × Hp)
  | 0, _, _, _, _ => none
  | n + 1, x0, x1, x2, h => (getI h 11 x0 11).bind fun v1 => if v1 ≤ x2 then (fX12_cut_49 x0 x2 h) else ((getR h 11 x0 14).bind fun v3 => (ald h 0 v3 x2).bind fun v4 => if x1 < v4 then (fX12_cut_49 x0 x2 h) else ((c32 (x2 + 1)).bind fun _ => fX12_cut_25 n x0 x1 (x2 + 1) h))
theorem tX12_cut_25 {L : Nat} {xs : Nat → Int32} {l : Launch} {res : Int × Hp} : ∀ (n : Nat) (x0 : Nat) (x1 : Int) (x2 : Int) (h : Hp), R32 x1 → R32 x2 → fX12_cut_25 n x0 x1 x2 h = some res → J L xs l RX12 cX12_cut 4 false 3 (QI res) 0 0 25 [(0, vr x0), (1, vi x1), (2, vi x2)] [] h := by
  intro n
  induction n with
  | zero => intro x0 x1 x2 h rx1 rx2 H; cases H
  | succ n ih =>
    intro x0 x1 x2 h rx1 rx2 H
    rw [fX12_cut_25] at H
    refine j_iload_n (i := 2) (pc' := 26) dX12_cut_25 rfl rfl 2 rfl ?_
    refine j_aload_n (i := 0) (pc' := 27) dX12_cut_26 rfl rfl 0 rfl ?_
    obtain ⟨v1, e1, H⟩ := bs H
    refine j_getI (pc' := 30) dX12_cut_27 rfl fl_X12_37 e1 (fun r1 => ?_)
    refine j_icmp_ge (tgt := 49) (pc' := 33) dX12_cut_30 (by decide) rfl rx2 r1 (fun c2 => ?_) (fun c2 => ?_)
    · rw [if_pos c2] at H
      refine j_sub (lv' := [(0, vr x0), (2, vi x2)]) [0, 2] rfl ?_
      exact tX12_cut_49   x0 x2 h rx2 H
    · rw [if_neg c2] at H
      refine j_aload_n (i := 0) (pc' := 34) dX12_cut_33 rfl rfl 0 rfl ?_
      obtain ⟨v3, e3, H⟩ := bs H
      refine j_getR (pc' := 37) dX12_cut_34 rfl fl_X12_46 e3 (fun r3 => ?_)
      refine j_iload_n (i := 2) (pc' := 38) dX12_cut_37 rfl rfl 2 rfl ?_
      obtain ⟨v4, e4, H⟩ := bs H
      refine j_iald (pc' := 39) dX12_cut_38 rfl e4 (fun r4 => ?_)
      refine j_iload_n (i := 1) (pc' := 40) dX12_cut_39 rfl rfl 1 rfl ?_
      refine j_icmp_gt (tgt := 49) (pc' := 43) dX12_cut_40 (by decide) rfl r4 rx1 (fun c5 => ?_) (fun c5 => ?_)
      · rw [if_pos c5] at H
        refine j_sub (lv' := [(0, vr x0), (2, vi x2)]) [0, 2] rfl ?_
        exact tX12_cut_49   x0 x2 h rx2 H
      · rw [if_neg c5] at H
        obtain ⟨u6, e6, H⟩ := bs H
        have r6 := c32_R e6
        refine j_iinc (k0 := 2) (lv' := [(0, vr x0), (1, vi x1), (2, vi (x2 + 1))]) (pc' := 46) dX12_cut_43 rfl rfl (by decide) [1, 2, 0] rfl ?_
        refine j_goto (tgt := 25) dX12_cut_46 (by decide) ?_
        exact ih x0 x1 (x2 + 1) h rx1 r6 H
noncomputable def fX12_cut (a0 : Nat) (a1 : Int) (h : Hp) : Option (Int × Hp) :=
  (putV h 11 a0 19 (vi 0)).bind fun h1 => (getI h1 11 a0 11).bind fun v2 => if v2 = (-1) then ((cob h1 11 a0).bind fun _ => (fX12_no a0 2 h1).bind fun p7 => some (p7.1, p7.2)) else ((cob h1 11 a0).bind fun _ => (fX12_change a0 h1).bind fun h5 => fX12_cut_25 FU a0 a1 0 h5)
theorem tX12_cut {L : Nat} {xs : Nat → Int32} {l : Launch} {res : Int × Hp} (a0 : Nat) (a1 : Int) (h : Hp) (ra1 : R32 a1) (H : fX12_cut a0 a1 h = some res) : J L xs l RX12 cX12_cut 4 false 3 (QI res) 0 0 0 (alv 0 [vr a0, vi a1]) [] h := by
  unfold fX12_cut at H
  show J L xs l RX12 cX12_cut 4 false 3 (QI res) 0 0 0 [(0, vr a0), (1, vi a1)] [] h
  refine j_aload_n (i := 0) (pc' := 1) dX12_cut_0 rfl rfl 0 rfl ?_
  refine j_iconst (pc' := 2) dX12_cut_1 rfl ?_
  obtain ⟨h1, e1, H⟩ := bs H
  refine j_putV (pc' := 5) dX12_cut_2 rfl fp_X12_77 tI ⟨by decide, by decide⟩ e1 ?_
  refine j_aload_n (i := 0) (pc' := 6) dX12_cut_5 rfl rfl 0 rfl ?_
  obtain ⟨v2, e2, H⟩ := bs H
  refine j_getI (pc' := 9) dX12_cut_6 rfl fl_X12_37 e2 (fun r2 => ?_)
  refine j_iconst (pc' := 10) dX12_cut_9 rfl ?_
  refine j_icmp_ne (tgt := 19) (pc' := 13) dX12_cut_10 (by decide) rfl r2 ⟨by decide, by decide⟩ (fun c3 => ?_) (fun c3 => ?_)
  · rw [if_neg c3] at H
    refine j_aload_n (i := 0) (pc' := 20) dX12_cut_19 rfl rfl 0 rfl ?_
    obtain ⟨u4, e4, H⟩ := bs H
    obtain ⟨h5, e5, H⟩ := bs H
    refine j_cVv (y := yX12_change) (dY := 2) (vs := []) (st := []) (q := a0) (pc' := 23) dX12_cut_20 rfl ymX12_change yvX12_change ml_X12_102 (by decide) rfl (Nat.le_of_ble_eq_true rfl) (Nat.le_of_ble_eq_true rfl) e4 (tX12_change a0 h1 e5) (fun z5 => ?_)
    refine j_iconst (pc' := 24) dX12_cut_23 rfl ?_
    refine j_istore_n (i := 2) (lv' := [(0, vr a0), (1, vi a1), (2, vi 0)]) (pc' := 25) dX12_cut_24 rfl rfl (by decide) [1, 2, 0] rfl ?_
    exact tX12_cut_25   FU a0 a1 0 h5 ra1 ⟨by decide, by decide⟩ H
  · rw [if_pos c3] at H
    refine j_aload_n (i := 0) (pc' := 14) dX12_cut_13 rfl rfl 0 rfl ?_
    refine j_iconst (pc' := 15) dX12_cut_14 rfl ?_
    obtain ⟨u6, e6, H⟩ := bs H
    obtain ⟨p7, e7, H⟩ := bs H
    refine j_cVi (y := yX12_no) (dY := 1) (vs := [vi 2]) (st := []) (q := a0) (pc' := 18) dX12_cut_15 rfl ymX12_no yvX12_no ml_X12_98 (by decide) rfl (Nat.le_of_ble_eq_true rfl) (Nat.le_of_ble_eq_true rfl) e6 (tX12_no a0 2 h1 ⟨by decide, by decide⟩ e7) (fun r7 z7 => ?_)
    obtain rfl := Option.some.inj H
    exact j_iret dX12_cut_18 r7 ⟨rfl, rfl⟩
-- X12_stirling
noncomputable def fX12_stirling_18 (self : Int → Int → Hp → Option (Int × Hp)) (s0 : Int) (h : Hp) : Option (Int × Hp) :=
  some (s0, h)
theorem tX12_stirling_18 {L : Nat} {xs : Nat → Int32} {l : Launch} {res : Int × Hp} {dS : Nat} (hdS : 0 ≤ dS) (self : Int → Int → Hp → Option (Int × Hp)) (hs : ∀ (rr : Int × Hp) (a0 : Int) (a1 : Int) (h : Hp), R32 a0 → R32 a1 → self a0 a1 h = some rr → J L xs l RX12 cX12_stirling 2 false dS (QL rr) 0 0 0 (alv 0 [vi a0, vi a1]) [] h) (s0 : Int) (h : Hp) (rs0 : R64 s0) (H : fX12_stirling_18 self s0 h = some res) : J L xs l RX12 cX12_stirling 2 false (dS + 1) (QL res) 0 0 18 [] [vl s0] h := by
  unfold fX12_stirling_18 at H
  obtain rfl := Option.some.inj H
  exact j_lret dX12_stirling_18 rs0 ⟨rfl, rfl⟩
noncomputable def fX12_stirling_8 (self : Int → Int → Hp → Option (Int × Hp)) (x0 : Int) (x1 : Int) (h : Hp) : Option (Int × Hp) :=
  if x0 = x1 then (fX12_stirling_18 self 1 h) else (fX12_stirling_18 self 0 h)
theorem tX12_stirling_8 {L : Nat} {xs : Nat → Int32} {l : Launch} {res : Int × Hp} {dS : Nat} (hdS : 0 ≤ dS) (self : Int → Int → Hp → Option (Int × Hp)) (hs : ∀ (rr : Int × Hp) (a0 : Int) (a1 : Int) (h : Hp), R32 a0 → R32 a1 → self a0 a1 h = some rr → J L xs l RX12 cX12_stirling 2 false dS (QL rr) 0 0 0 (alv 0 [vi a0, vi a1]) [] h) (x0 : Int) (x1 : Int) (h : Hp) (rx0 : R32 x0) (rx1 : R32 x1) (H : fX12_stirling_8 self x0 x1 h = some res) : J L xs l RX12 cX12_stirling 2 false (dS + 1) (QL res) 0 0 8 [(0, vi x0), (1, vi x1)] [] h := by
  unfold fX12_stirling_8 at H
  refine j_iload_n (i := 0) (pc' := 9) dX12_stirling_8 rfl rfl 0 rfl ?_
  refine j_iload_n (i := 1) (pc' := 10) dX12_stirling_9 rfl rfl 1 rfl ?_
  refine j_icmp_ne (tgt := 17) (pc' := 13) dX12_stirling_10 (by decide) rfl rx0 rx1 (fun c1 => ?_) (fun c1 => ?_)
  · rw [if_neg c1] at H
    refine j_lconst (z := 0) (pc' := 18) dX12_stirling_17 rfl rfl ?_
    refine j_sub (lv' := []) [] rfl ?_
    exact tX12_stirling_18 hdS _ hs 0 h ⟨by decide, by decide⟩ H
  · rw [if_pos c1] at H
    refine j_lconst (z := 1) (pc' := 14) dX12_stirling_13 rfl rfl ?_
    refine j_goto (tgt := 18) dX12_stirling_14 (by decide) ?_
    refine j_sub (lv' := []) [] rfl ?_
    exact tX12_stirling_18 hdS _ hs 1 h ⟨by decide, by decide⟩ H
noncomputable def fX12_stirling : Nat → Int → Int → Hp → Option (Int × Hp)
  | 0, _, _, _ => none
  | n + 1, a0, a1, h => if a0 = 0 then (fX12_stirling_8 (fX12_stirling n) a0 a1 h) else (if a1 = 0 then (fX12_stirling_8 (fX12_stirling n) a0 a1 h) else ((c32 (a0 - 1)).bind fun _ => ((fX12_stirling n) (a0 - 1) a1 h).bind fun p4 => (c32 (a1 - 1)).bind fun _ => ((fX12_stirling n) (a0 - 1) (a1 - 1) p4.2).bind fun p6 => (c64 ((a1 * p4.1) + p6.1)).bind fun _ => some (((a1 * p4.1) + p6.1), p6.2)))
theorem tX12_stirling_r {L : Nat} {xs : Nat → Int32} {l : Launch} : ∀ (n : Nat) (res : Int × Hp) (a0 : Int) (a1 : Int) (h : Hp), R32 a0 → R32 a1 → fX12_stirling n a0 a1 h = some res → J L xs l RX12 cX12_stirling 2 false (0 + n) (QL res) 0 0 0 (alv 0 [vi a0, vi a1]) [] h := by
  intro n
  induction n with
  | zero => intro res a0 a1 h ra0 ra1 H; cases H
  | succ n ih =>
    intro res a0 a1 h ra0 ra1 H
    rw [fX12_stirling] at H
    have hdS : 0 ≤ 0 + n := Nat.le_add_right _ _
    have hs := ih
    show J L xs l RX12 cX12_stirling 2 false (0 + n + 1) (QL res) 0 0 0 [(0, vi a0), (1, vi a1)] [] h
    refine j_iload_n (i := 0) (pc' := 1) dX12_stirling_0 rfl rfl 0 rfl ?_
    refine j_if_eq (tgt := 8) (pc' := 4) dX12_stirling_1 (by decide) rfl ra0 (fun c1 => ?_) (fun c1 => ?_)
    · rw [if_pos c1] at H
      exact tX12_stirling_8 hdS _ hs a0 a1 h ra0 ra1 H
    · rw [if_neg c1] at H
      refine j_iload_n (i := 1) (pc' := 5) dX12_stirling_4 rfl rfl 1 rfl ?_
      refine j_if_ne (tgt := 19) (pc' := 8) dX12_stirling_5 (by decide) rfl ra1 (fun c2 => ?_) (fun c2 => ?_)
      · rw [if_neg c2] at H
        refine j_iload_n (i := 1) (pc' := 20) dX12_stirling_19 rfl rfl 1 rfl ?_
        refine j_i2l (pc' := 21) dX12_stirling_20 rfl ra1 ?_
        refine j_iload_n (i := 0) (pc' := 22) dX12_stirling_21 rfl rfl 0 rfl ?_
        refine j_iconst (pc' := 23) dX12_stirling_22 rfl ?_
        refine j_isub (pc' := 24) dX12_stirling_23 rfl ?_
        refine j_iload_n (i := 1) (pc' := 25) dX12_stirling_24 rfl rfl 1 rfl ?_
        obtain ⟨u3, e3, H⟩ := bs H
        have r3 := c32_R e3
        obtain ⟨p4, e4, H⟩ := bs H
        refine j_cSl (y := yX12_stirling) (dY := 0 + n) (vs := [vi (a0 - 1), vi a1]) (st := [vl a1]) (pc' := 28) dX12_stirling_25 rfl ymX12_stirling ysX12_stirling ml_X12_211 (Nat.le_refl _) rfl (Nat.le_of_ble_eq_true rfl) (Nat.le_of_ble_eq_true rfl) (hs _ (a0 - 1) a1 h r3 ra1 e4) (fun r4 z4 => ?_)
        refine j_lmul (pc' := 29) dX12_stirling_28 rfl ?_
        refine j_iload_n (i := 0) (pc' := 30) dX12_stirling_29 rfl rfl 0 rfl ?_
        refine j_iconst (pc' := 31) dX12_stirling_30 rfl ?_
        refine j_isub (pc' := 32) dX12_stirling_31 rfl ?_
        refine j_iload_n (i := 1) (pc' := 33) dX12_stirling_32 rfl rfl 1 rfl ?_
        refine j_iconst (pc' := 34) dX12_stirling_33 rfl ?_
        refine j_isub (pc' := 35) dX12_stirling_34 rfl ?_
        obtain ⟨u5, e5, H⟩ := bs H
        have r5 := c32_R e5
        obtain ⟨p6, e6, H⟩ := bs H
        refine j_cSl (y := yX12_stirling) (dY := 0 + n) (vs := [vi (a0 - 1), vi (a1 - 1)]) (st := [vl (a1 * p4.1)]) (pc' := 38) dX12_stirling_35 rfl ymX12_stirling ysX12_stirling ml_X12_211 (Nat.le_refl _) rfl (Nat.le_of_ble_eq_true rfl) (Nat.le_of_ble_eq_true rfl) (hs _ (a0 - 1) (a1 - 1) p4.2 r3 r5 e6) (fun r6 z6 => ?_)
        refine j_ladd (pc' := 39) dX12_stirling_38 rfl ?_
        obtain ⟨u7, e7, H⟩ := bs H
        have r7 := c64_R e7
        obtain rfl := Option.some.inj H
        exact j_lret dX12_stirling_39 r7 ⟨rfl, rfl⟩
      · rw [if_pos c2] at H
        exact tX12_stirling_8 hdS _ hs a0 a1 h ra0 ra1 H
theorem tX12_stirling {L : Nat} {xs : Nat → Int32} {l : Launch} {res : Int × Hp} (a0 : Int) (a1 : Int) (h : Hp) (ra0 : R32 a0) (ra1 : R32 a1) (H : fX12_stirling 20 a0 a1 h = some res) : J L xs l RX12 cX12_stirling 2 false 20 (QL res) 0 0 0 (alv 0 [vi a0, vi a1]) [] h := tX12_stirling_r 20 res a0 a1 h ra0 ra1 H
-- X12_many
noncomputable def fX12_many_25 (x0 : Nat) (h : Hp) : Option (Int × Hp) :=
  (cob h 11 x0).bind fun _ => (fX12_no x0 1 h).bind fun p2 => some (p2.1, p2.2)
theorem tX12_many_25 {L : Nat} {xs : Nat → Int32} {l : Launch} {res : Int × Hp} (x0 : Nat) (h : Hp)  (H : fX12_many_25 x0 h = some res) : J L xs l RX12 cX12_many 6 false 21 (QL res) 0 0 25 [(0, vr x0)] [] h := by
  unfold fX12_many_25 at H
  refine j_aload_n (i := 0) (pc' := 26) dX12_many_25 rfl rfl 0 rfl ?_
  refine j_iconst (pc' := 27) dX12_many_26 rfl ?_
  obtain ⟨u1, e1, H⟩ := bs H
  obtain ⟨p2, e2, H⟩ := bs H
  refine j_cVi (y := yX12_no) (dY := 1) (vs := [vi 1]) (st := []) (q := x0) (pc' := 30) dX12_many_27 rfl ymX12_no yvX12_no ml_X12_98 (by decide) rfl (Nat.le_of_ble_eq_true rfl) (Nat.le_of_ble_eq_true rfl) e1 (tX12_no x0 1 h ⟨by decide, by decide⟩ e2) (fun r2 z2 => ?_)
  refine j_i2l (pc' := 31) dX12_many_30 rfl r2 ?_
  obtain rfl := Option.some.inj H
  exact j_lret dX12_many_31 (R32_l r2) ⟨rfl, rfl⟩
noncomputable def fX12_many_68 (x3 : Int) (h : Hp) : Option (Int × Hp) :=
  some (x3, h)
theorem tX12_many_68 {L : Nat} {xs : Nat → Int32} {l : Launch} {res : Int × Hp} (x3 : Int) (h : Hp) (rx3 : R64 x3) (H : fX12_many_68 x3 h = some res) : J L xs l RX12 cX12_many 6 false 21 (QL res) 0 0 68 [(3, vl x3)] [] h := by
  unfold fX12_many_68 at H
  refine j_lload_n (i := 3) (pc' := 69) dX12_many_68 rfl rfl 0 rfl ?_
  obtain rfl := Option.some.inj H
  exact j_lret dX12_many_69 rx3 ⟨rfl, rfl⟩
noncomputable def fX12_many_47 : Nat → Int → Int → Int → Hp → Option (Int × Hp)
  | 0, _, _, _, _ => none
  | n + 1, x1, x3, x5, h => if x1 < x5 then (fX12_many_68 x3 h) else ((fX12_stirling 20 x1 x5 h).bind fun p2 => (c64 (x3 + p2.1)).bind fun _ => (c32 (x5 + 1)).bind fun _ => fX12_many_47 n x1 (x3 + p2.1) (x5 + 1) p2.2)
theorem tX12_many_47 {L : Nat} {xs : Nat → Int32} {l : Launch} {res : Int × Hp} : ∀ (n : Nat) (x1 : Int) (x3 : Int) (x5 : Int) (h : Hp), R32 x1 → R64 x3 → R32 x5 → fX12_many_47 n x1 x3 x5 h = some res → J L xs l RX12 cX12_many 6 false 21 (QL res) 0 0 47 [(1, vi x1), (3, vl x3), (5, vi x5)] [] h := by
  intro n
  induction n with
  | zero => intro x1 x3 x5 h rx1 rx3 rx5 H; cases H
  | succ n ih =>
    intro x1 x3 x5 h rx1 rx3 rx5 H
    rw [fX12_many_47] at H
    refine j_iload (pc' := 49) dX12_many_47 rfl 2 rfl ?_
    refine j_iload_n (i := 1) (pc' := 50) dX12_many_49 rfl rfl 0 rfl ?_
    refine j_icmp_gt (tgt := 68) (pc' := 53) dX12_many_50 (by decide) rfl rx5 rx1 (fun c1 => ?_) (fun c1 => ?_)
    · rw [if_pos c1] at H
      refine j_sub (lv' := [(3, vl x3)]) [1] rfl ?_
      exact tX12_many_68   x3 h rx3 H
    · rw [if_neg c1] at H
      refine j_lload_n (i := 3) (pc' := 54) dX12_many_53 rfl rfl 1 rfl ?_
      refine j_iload_n (i := 1) (pc' := 55) dX12_many_54 rfl rfl 0 rfl ?_
      refine j_iload (pc' := 57) dX12_many_55 rfl 2 rfl ?_
      obtain ⟨p2, e2, H⟩ := bs H
      refine j_cSl (y := yX12_stirling) (dY := 20) (vs := [vi x1, vi x5]) (st := [vl x3]) (pc' := 60) dX12_many_57 rfl ymX12_stirling ysX12_stirling ml_X12_211 (by decide) rfl (Nat.le_of_ble_eq_true rfl) (Nat.le_of_ble_eq_true rfl) (tX12_stirling x1 x5 h rx1 rx5 e2) (fun r2 z2 => ?_)
      refine j_ladd (pc' := 61) dX12_many_60 rfl ?_
      obtain ⟨u3, e3, H⟩ := bs H
      have r3 := c64_R e3
      refine j_lstore_n (i := 3) (lv' := [(1, vi x1), (3, vl (x3 + p2.1)), (5, vi x5)]) (pc' := 62) dX12_many_61 rfl rfl (by decide) [1, 0, 2] rfl ?_
      obtain ⟨u4, e4, H⟩ := bs H
      have r4 := c32_R e4
      refine j_iinc (k0 := 2) (lv' := [(1, vi x1), (3, vl (x3 + p2.1)), (5, vi (x5 + 1))]) (pc' := 65) dX12_many_62 rfl rfl (by decide) [1, 2, 0] rfl ?_
      refine j_goto (tgt := 47) dX12_many_65 (by decide) ?_
      exact ih x1 (x3 + p2.1) (x5 + 1) p2.2 rx1 r3 r4 H
noncomputable def fX12_many (a0 : Nat) (a1 : Int) (a2 : Int) (h : Hp) : Option (Int × Hp) :=
  (putV h 11 a0 19 (vi 0)).bind fun h1 => if a1 < 0 then (fX12_many_25 a0 h1) else (if 12 < a1 then (fX12_many_25 a0 h1) else (if a2 < 0 then (fX12_many_25 a0 h1) else (if a2 ≤ 12 then (if a2 ≤ 0 then (fX12_many_47 FU a1 0 0 h1) else ((fX12_stirling 20 a1 a2 h1).bind fun p7 => some (p7.1, p7.2))) else (fX12_many_25 a0 h1))))
theorem tX12_many {L : Nat} {xs : Nat → Int32} {l : Launch} {res : Int × Hp} (a0 : Nat) (a1 : Int) (a2 : Int) (h : Hp) (ra1 : R32 a1) (ra2 : R32 a2) (H : fX12_many a0 a1 a2 h = some res) : J L xs l RX12 cX12_many 6 false 21 (QL res) 0 0 0 (alv 0 [vr a0, vi a1, vi a2]) [] h := by
  unfold fX12_many at H
  show J L xs l RX12 cX12_many 6 false 21 (QL res) 0 0 0 [(0, vr a0), (1, vi a1), (2, vi a2)] [] h
  refine j_aload_n (i := 0) (pc' := 1) dX12_many_0 rfl rfl 0 rfl ?_
  refine j_iconst (pc' := 2) dX12_many_1 rfl ?_
  obtain ⟨h1, e1, H⟩ := bs H
  refine j_putV (pc' := 5) dX12_many_2 rfl fp_X12_77 tI ⟨by decide, by decide⟩ e1 ?_
  refine j_iload_n (i := 1) (pc' := 6) dX12_many_5 rfl rfl 1 rfl ?_
  refine j_if_lt (tgt := 25) (pc' := 9) dX12_many_6 (by decide) rfl ra1 (fun c2 => ?_) (fun c2 => ?_)
  · rw [if_pos c2] at H
    refine j_sub (lv' := [(0, vr a0)]) [0] rfl ?_
    exact tX12_many_25   a0 h1  H
  · rw [if_neg c2] at H
    refine j_iload_n (i := 1) (pc' := 10) dX12_many_9 rfl rfl 1 rfl ?_
    refine j_bipush (pc' := 12) dX12_many_10 rfl (by decide +kernel) ?_
    refine j_icmp_gt (tgt := 25) (pc' := 15) dX12_many_12 (by decide) rfl ra1 ⟨by decide, by decide⟩ (fun c3 => ?_) (fun c3 => ?_)
    · rw [if_pos c3] at H
      refine j_sub (lv' := [(0, vr a0)]) [0] rfl ?_
      exact tX12_many_25   a0 h1  H
    · rw [if_neg c3] at H
      refine j_iload_n (i := 2) (pc' := 16) dX12_many_15 rfl rfl 2 rfl ?_
      refine j_if_lt (tgt := 25) (pc' := 19) dX12_many_16 (by decide) rfl ra2 (fun c4 => ?_) (fun c4 => ?_)
      · rw [if_pos c4] at H
        refine j_sub (lv' := [(0, vr a0)]) [0] rfl ?_
        exact tX12_many_25   a0 h1  H
      · rw [if_neg c4] at H
        refine j_iload_n (i := 2) (pc' := 20) dX12_many_19 rfl rfl 2 rfl ?_
        refine j_bipush (pc' := 22) dX12_many_20 rfl (by decide +kernel) ?_
        refine j_icmp_le (tgt := 32) (pc' := 25) dX12_many_22 (by decide) rfl ra2 ⟨by decide, by decide⟩ (fun c5 => ?_) (fun c5 => ?_)
        · rw [if_pos c5] at H
          refine j_iload_n (i := 2) (pc' := 33) dX12_many_32 rfl rfl 2 rfl ?_
          refine j_if_le (tgt := 42) (pc' := 36) dX12_many_33 (by decide) rfl ra2 (fun c6 => ?_) (fun c6 => ?_)
          · rw [if_pos c6] at H
            refine j_lconst (z := 0) (pc' := 43) dX12_many_42 rfl rfl ?_
            refine j_lstore_n (i := 3) (lv' := [(0, vr a0), (1, vi a1), (2, vi a2), (3, vl 0)]) (pc' := 44) dX12_many_43 rfl rfl (by decide) [1, 2, 3, 0] rfl ?_
            refine j_iconst (pc' := 45) dX12_many_44 rfl ?_
            refine j_istore (lv' := [(0, vr a0), (1, vi a1), (2, vi a2), (3, vl 0), (5, vi 0)]) (pc' := 47) dX12_many_45 rfl (by decide) [1, 2, 3, 4, 0] rfl ?_
            refine j_sub (lv' := [(1, vi a1), (3, vl 0), (5, vi 0)]) [1, 3, 4] rfl ?_
            exact tX12_many_47   FU a1 0 0 h1 ra1 ⟨by decide, by decide⟩ ⟨by decide, by decide⟩ H
          · rw [if_neg c6] at H
            refine j_iload_n (i := 1) (pc' := 37) dX12_many_36 rfl rfl 1 rfl ?_
            refine j_iload_n (i := 2) (pc' := 38) dX12_many_37 rfl rfl 2 rfl ?_
            obtain ⟨p7, e7, H⟩ := bs H
            refine j_cSl (y := yX12_stirling) (dY := 20) (vs := [vi a1, vi a2]) (st := []) (pc' := 41) dX12_many_38 rfl ymX12_stirling ysX12_stirling ml_X12_211 (by decide) rfl (Nat.le_of_ble_eq_true rfl) (Nat.le_of_ble_eq_true rfl) (tX12_stirling a1 a2 h1 ra1 ra2 e7) (fun r7 z7 => ?_)
            obtain rfl := Option.some.inj H
            exact j_lret dX12_many_41 r7 ⟨rfl, rfl⟩
        · rw [if_neg c5] at H
          refine j_sub (lv' := [(0, vr a0)]) [0] rfl ?_
          exact tX12_many_25   a0 h1  H
-- X12_waysOn
noncomputable def fX12_waysOn : Nat → Int → Int → Hp → Option (Int × Hp)
  | 0, _, _, _ => none
  | n + 1, a0, a1, h => if a0 = 0 then (some (1, h)) else ((c32 (a0 - 1)).bind fun _ => ((fX12_waysOn n) (a0 - 1) a1 h).bind fun p3 => (c32 (a1 + 1)).bind fun _ => ((fX12_waysOn n) (a0 - 1) (a1 + 1) p3.2).bind fun p5 => (c64 ((a1 * p3.1) + p5.1)).bind fun _ => some (((a1 * p3.1) + p5.1), p5.2))
theorem tX12_waysOn_r {L : Nat} {xs : Nat → Int32} {l : Launch} : ∀ (n : Nat) (res : Int × Hp) (a0 : Int) (a1 : Int) (h : Hp), R32 a0 → R32 a1 → fX12_waysOn n a0 a1 h = some res → J L xs l RX12 cX12_waysOn 2 false (0 + n) (QL res) 0 0 0 (alv 0 [vi a0, vi a1]) [] h := by
  intro n
  induction n with
  | zero => intro res a0 a1 h ra0 ra1 H; cases H
  | succ n ih =>
    intro res a0 a1 h ra0 ra1 H
    rw [fX12_waysOn] at H
    have hdS : 0 ≤ 0 + n := Nat.le_add_right _ _
    have hs := ih
    show J L xs l RX12 cX12_waysOn 2 false (0 + n + 1) (QL res) 0 0 0 [(0, vi a0), (1, vi a1)] [] h
    refine j_iload_n (i := 0) (pc' := 1) dX12_waysOn_0 rfl rfl 0 rfl ?_
    refine j_if_ne (tgt := 6) (pc' := 4) dX12_waysOn_1 (by decide) rfl ra0 (fun c1 => ?_) (fun c1 => ?_)
    · rw [if_neg c1] at H
      refine j_iload_n (i := 1) (pc' := 7) dX12_waysOn_6 rfl rfl 1 rfl ?_
      refine j_i2l (pc' := 8) dX12_waysOn_7 rfl ra1 ?_
      refine j_iload_n (i := 0) (pc' := 9) dX12_waysOn_8 rfl rfl 0 rfl ?_
      refine j_iconst (pc' := 10) dX12_waysOn_9 rfl ?_
      refine j_isub (pc' := 11) dX12_waysOn_10 rfl ?_
      refine j_iload_n (i := 1) (pc' := 12) dX12_waysOn_11 rfl rfl 1 rfl ?_
      obtain ⟨u2, e2, H⟩ := bs H
      have r2 := c32_R e2
      obtain ⟨p3, e3, H⟩ := bs H
      refine j_cSl (y := yX12_waysOn) (dY := 0 + n) (vs := [vi (a0 - 1), vi a1]) (st := [vl a1]) (pc' := 15) dX12_waysOn_12 rfl ymX12_waysOn ysX12_waysOn ml_X12_215 (Nat.le_refl _) rfl (Nat.le_of_ble_eq_true rfl) (Nat.le_of_ble_eq_true rfl) (hs _ (a0 - 1) a1 h r2 ra1 e3) (fun r3 z3 => ?_)
      refine j_lmul (pc' := 16) dX12_waysOn_15 rfl ?_
      refine j_iload_n (i := 0) (pc' := 17) dX12_waysOn_16 rfl rfl 0 rfl ?_
      refine j_iconst (pc' := 18) dX12_waysOn_17 rfl ?_
      refine j_isub (pc' := 19) dX12_waysOn_18 rfl ?_
      refine j_iload_n (i := 1) (pc' := 20) dX12_waysOn_19 rfl rfl 1 rfl ?_
      refine j_iconst (pc' := 21) dX12_waysOn_20 rfl ?_
      refine j_iadd (pc' := 22) dX12_waysOn_21 rfl ?_
      obtain ⟨u4, e4, H⟩ := bs H
      have r4 := c32_R e4
      obtain ⟨p5, e5, H⟩ := bs H
      refine j_cSl (y := yX12_waysOn) (dY := 0 + n) (vs := [vi (a0 - 1), vi (a1 + 1)]) (st := [vl (a1 * p3.1)]) (pc' := 25) dX12_waysOn_22 rfl ymX12_waysOn ysX12_waysOn ml_X12_215 (Nat.le_refl _) rfl (Nat.le_of_ble_eq_true rfl) (Nat.le_of_ble_eq_true rfl) (hs _ (a0 - 1) (a1 + 1) p3.2 r2 r4 e5) (fun r5 z5 => ?_)
      refine j_ladd (pc' := 26) dX12_waysOn_25 rfl ?_
      obtain ⟨u6, e6, H⟩ := bs H
      have r6 := c64_R e6
      obtain rfl := Option.some.inj H
      exact j_lret dX12_waysOn_26 r6 ⟨rfl, rfl⟩
    · rw [if_pos c1] at H
      refine j_lconst (z := 1) (pc' := 5) dX12_waysOn_4 rfl rfl ?_
      obtain rfl := Option.some.inj H
      exact j_lret dX12_waysOn_5 ⟨by decide, by decide⟩ ⟨rfl, rfl⟩
theorem tX12_waysOn {L : Nat} {xs : Nat → Int32} {l : Launch} {res : Int × Hp} (a0 : Int) (a1 : Int) (h : Hp) (ra0 : R32 a0) (ra1 : R32 a1) (H : fX12_waysOn 20 a0 a1 h = some res) : J L xs l RX12 cX12_waysOn 2 false 20 (QL res) 0 0 0 (alv 0 [vi a0, vi a1]) [] h := tX12_waysOn_r 20 res a0 a1 h ra0 ra1 H
-- X12_rank
noncomputable def fX12_rank_66 (x1 : Int) (h : Hp) : Option (Int × Hp) :=
  some (x1, h)
theorem tX12_rank_66 {L : Nat} {xs : Nat → Int32} {l : Launch} {res : Int × Hp} (x1 : Int) (h : Hp) (rx1 : R64 x1) (H : fX12_rank_66 x1 h = some res) : J L xs l RX12 cX12_rank 5 false 21 (QL res) 0 0 66 [(1, vl x1)] [] h := by
  unfold fX12_rank_66 at H
  refine j_lload_n (i := 1) (pc' := 67) dX12_rank_66 rfl rfl 0 rfl ?_
  obtain rfl := Option.some.inj H
  exact j_lret dX12_rank_67 rx1 ⟨rfl, rfl⟩
noncomputable def fX12_rank_12 : Nat → Nat → Int → Int → Int → Hp → Option (Int × Hp)
  | 0, _, _, _, _, _ => none
  | n + 1, x0, x1, x3, x4, h => (cob h 11 x0).bind fun _ => (fX12_n x0 h).bind fun p2 => if p2.1 ≤ x4 then (fX12_rank_66 x1 p2.2) else ((getR p2.2 11 x0 5).bind fun v4 => (ald p2.2 0 v4 x4).bind fun v5 => (cob p2.2 11 x0).bind fun _ => (fX12_n x0 p2.2).bind fun p7 => (c32 ((p7.1 - 1) - x4)).bind fun _ => (fX12_waysOn 20 ((p7.1 - 1) - x4) x3 p7.2).bind fun p9 => (c64 (x1 + (v5 * p9.1))).bind fun _ => (getR p9.2 11 x0 5).bind fun v11 => (ald p9.2 0 v11 x4).bind fun v12 => (c32 (v12 + 1)).bind fun _ => (c32 (x4 + 1)).bind fun _ => fX12_rank_12 n x0 (x1 + (v5 * p9.1)) (max x3 (v12 + 1)) (x4 + 1) p9.2)
theorem tX12_rank_12 {L : Nat} {xs : Nat → Int32} {l : Launch} {res : Int × Hp} : ∀ (n : Nat) (x0 : Nat) (x1 : Int) (x3 : Int) (x4 : Int) (h : Hp), R64 x1 → R32 x3 → R32 x4 → fX12_rank_12 n x0 x1 x3 x4 h = some res → J L xs l RX12 cX12_rank 5 false 21 (QL res) 0 0 12 [(0, vr x0), (1, vl x1), (3, vi x3), (4, vi x4)] [] h := by
  intro n
  induction n with
  | zero => intro x0 x1 x3 x4 h rx1 rx3 rx4 H; cases H
  | succ n ih =>
    intro x0 x1 x3 x4 h rx1 rx3 rx4 H
    rw [fX12_rank_12] at H
    refine j_iload (pc' := 14) dX12_rank_12 rfl 3 rfl ?_
    refine j_aload_n (i := 0) (pc' := 15) dX12_rank_14 rfl rfl 0 rfl ?_
    obtain ⟨u1, e1, H⟩ := bs H
    obtain ⟨p2, e2, H⟩ := bs H
    refine j_cVi (y := yX12_n) (dY := 1) (vs := []) (st := [vi x4]) (q := x0) (pc' := 18) dX12_rank_15 rfl ymX12_n yvX12_n ml_X12_90 (by decide) rfl (Nat.le_of_ble_eq_true rfl) (Nat.le_of_ble_eq_true rfl) e1 (tX12_n x0 h e2) (fun r2 z2 => ?_)
    refine j_icmp_ge (tgt := 66) (pc' := 21) dX12_rank_18 (by decide) rfl rx4 r2 (fun c3 => ?_) (fun c3 => ?_)
    · rw [if_pos c3] at H
      refine j_sub (lv' := [(1, vl x1)]) [1] rfl ?_
      exact tX12_rank_66   x1 p2.2 rx1 H
    · rw [if_neg c3] at H
      refine j_lload_n (i := 1) (pc' := 22) dX12_rank_21 rfl rfl 1 rfl ?_
      refine j_aload_n (i := 0) (pc' := 23) dX12_rank_22 rfl rfl 0 rfl ?_
      obtain ⟨v4, e4, H⟩ := bs H
      refine j_getR (pc' := 26) dX12_rank_23 rfl fl_X12_26 e4 (fun r4 => ?_)
      refine j_iload (pc' := 28) dX12_rank_26 rfl 3 rfl ?_
      obtain ⟨v5, e5, H⟩ := bs H
      refine j_iald (pc' := 29) dX12_rank_28 rfl e5 (fun r5 => ?_)
      refine j_i2l (pc' := 30) dX12_rank_29 rfl r5 ?_
      refine j_aload_n (i := 0) (pc' := 31) dX12_rank_30 rfl rfl 0 rfl ?_
      obtain ⟨u6, e6, H⟩ := bs H
      obtain ⟨p7, e7, H⟩ := bs H
      refine j_cVi (y := yX12_n) (dY := 1) (vs := []) (st := [vl v5, vl x1]) (q := x0) (pc' := 34) dX12_rank_31 rfl ymX12_n yvX12_n ml_X12_90 (by decide) rfl (Nat.le_of_ble_eq_true rfl) (Nat.le_of_ble_eq_true rfl) e6 (tX12_n x0 p2.2 e7) (fun r7 z7 => ?_)
      refine j_iconst (pc' := 35) dX12_rank_34 rfl ?_
      refine j_isub (pc' := 36) dX12_rank_35 rfl ?_
      refine j_iload (pc' := 38) dX12_rank_36 rfl 3 rfl ?_
      refine j_isub (pc' := 39) dX12_rank_38 rfl ?_
      refine j_iload_n (i := 3) (pc' := 40) dX12_rank_39 rfl rfl 2 rfl ?_
      obtain ⟨u8, e8, H⟩ := bs H
      have r8 := c32_R e8
      obtain ⟨p9, e9, H⟩ := bs H
      refine j_cSl (y := yX12_waysOn) (dY := 20) (vs := [vi ((p7.1 - 1) - x4), vi x3]) (st := [vl v5, vl x1]) (pc' := 43) dX12_rank_40 rfl ymX12_waysOn ysX12_waysOn ml_X12_215 (by decide) rfl (Nat.le_of_ble_eq_true rfl) (Nat.le_of_ble_eq_true rfl) (tX12_waysOn ((p7.1 - 1) - x4) x3 p7.2 r8 rx3 e9) (fun r9 z9 => ?_)
      refine j_lmul (pc' := 44) dX12_rank_43 rfl ?_
      refine j_ladd (pc' := 45) dX12_rank_44 rfl ?_
      obtain ⟨u10, e10, H⟩ := bs H
      have r10 := c64_R e10
      refine j_lstore_n (i := 1) (lv' := [(0, vr x0), (1, vl (x1 + (v5 * p9.1))), (3, vi x3), (4, vi x4)]) (pc' := 46) dX12_rank_45 rfl rfl (by decide) [1, 0, 2, 3] rfl ?_
      refine j_iload_n (i := 3) (pc' := 47) dX12_rank_46 rfl rfl 2 rfl ?_
      refine j_aload_n (i := 0) (pc' := 48) dX12_rank_47 rfl rfl 0 rfl ?_
      obtain ⟨v11, e11, H⟩ := bs H
      refine j_getR (pc' := 51) dX12_rank_48 rfl fl_X12_26 e11 (fun r11 => ?_)
      refine j_iload (pc' := 53) dX12_rank_51 rfl 3 rfl ?_
      obtain ⟨v12, e12, H⟩ := bs H
      refine j_iald (pc' := 54) dX12_rank_53 rfl e12 (fun r12 => ?_)
      refine j_iconst (pc' := 55) dX12_rank_54 rfl ?_
      refine j_iadd (pc' := 56) dX12_rank_55 rfl ?_
      obtain ⟨u13, e13, H⟩ := bs H
      have r13 := c32_R e13
      refine j_mmax (pc' := 59) dX12_rank_56 rfl ml_X12_125 (by decide) (Nat.le_of_ble_eq_true rfl) rx3 r13 ?_
      refine j_istore_n (i := 3) (lv' := [(0, vr x0), (1, vl (x1 + (v5 * p9.1))), (3, vi (max x3 (v12 + 1))), (4, vi x4)]) (pc' := 60) dX12_rank_59 rfl rfl (by decide) [1, 2, 0, 3] rfl ?_
      obtain ⟨u14, e14, H⟩ := bs H
      have r14 := c32_R e14
      refine j_iinc (k0 := 3) (lv' := [(0, vr x0), (1, vl (x1 + (v5 * p9.1))), (3, vi (max x3 (v12 + 1))), (4, vi (x4 + 1))]) (pc' := 63) dX12_rank_60 rfl rfl (by decide) [1, 2, 3, 0] rfl ?_
      refine j_goto (tgt := 12) dX12_rank_63 (by decide) ?_
      exact ih x0 (x1 + (v5 * p9.1)) (max x3 (v12 + 1)) (x4 + 1) p9.2 r10 (R32_max rx3 r13) r14 H
noncomputable def fX12_rank (a0 : Nat) (h : Hp) : Option (Int × Hp) :=
  (putV h 11 a0 19 (vi 0)).bind fun h1 => fX12_rank_12 FU a0 0 1 1 h1
theorem tX12_rank {L : Nat} {xs : Nat → Int32} {l : Launch} {res : Int × Hp} (a0 : Nat) (h : Hp)  (H : fX12_rank a0 h = some res) : J L xs l RX12 cX12_rank 5 false 21 (QL res) 0 0 0 (alv 0 [vr a0]) [] h := by
  unfold fX12_rank at H
  show J L xs l RX12 cX12_rank 5 false 21 (QL res) 0 0 0 [(0, vr a0)] [] h
  refine j_aload_n (i := 0) (pc' := 1) dX12_rank_0 rfl rfl 0 rfl ?_
  refine j_iconst (pc' := 2) dX12_rank_1 rfl ?_
  obtain ⟨h1, e1, H⟩ := bs H
  refine j_putV (pc' := 5) dX12_rank_2 rfl fp_X12_77 tI ⟨by decide, by decide⟩ e1 ?_
  refine j_lconst (z := 0) (pc' := 6) dX12_rank_5 rfl rfl ?_
  refine j_lstore_n (i := 1) (lv' := [(0, vr a0), (1, vl 0)]) (pc' := 7) dX12_rank_6 rfl rfl (by decide) [1, 0] rfl ?_
  refine j_iconst (pc' := 8) dX12_rank_7 rfl ?_
  refine j_istore_n (i := 3) (lv' := [(0, vr a0), (1, vl 0), (3, vi 1)]) (pc' := 9) dX12_rank_8 rfl rfl (by decide) [1, 2, 0] rfl ?_
  refine j_iconst (pc' := 10) dX12_rank_9 rfl ?_
  refine j_istore (lv' := [(0, vr a0), (1, vl 0), (3, vi 1), (4, vi 1)]) (pc' := 12) dX12_rank_10 rfl (by decide) [1, 2, 3, 0] rfl ?_
  exact tX12_rank_12   FU a0 0 1 1 h1 ⟨by decide, by decide⟩ ⟨by decide, by decide⟩ ⟨by decide, by decide⟩ H
-- X12_of
noncomputable def fX12_of_26 (x0 : Nat) (h : Hp) : Option (Int × Hp) :=
  (cob h 11 x0).bind fun _ => (fX12_no x0 1 h).bind fun p2 => some (0, p2.2)
theorem tX12_of_26 {L : Nat} {xs : Nat → Int32} {l : Launch} {res : Int × Hp} (x0 : Nat) (h : Hp)  (H : fX12_of_26 x0 h = some res) : J L xs l RX12 cX12_of 10 false 21 (QB res) 0 0 26 [(0, vr x0)] [] h := by
  unfold fX12_of_26 at H
  refine j_aload_n (i := 0) (pc' := 27) dX12_of_26 rfl rfl 0 rfl ?_
  refine j_iconst (pc' := 28) dX12_of_27 rfl ?_
  obtain ⟨u1, e1, H⟩ := bs H
  obtain ⟨p2, e2, H⟩ := bs H
  refine j_cVi (y := yX12_no) (dY := 1) (vs := [vi 1]) (st := []) (q := x0) (pc' := 31) dX12_of_28 rfl ymX12_no yvX12_no ml_X12_98 (by decide) rfl (Nat.le_of_ble_eq_true rfl) (Nat.le_of_ble_eq_true rfl) e1 (tX12_no x0 1 h ⟨by decide, by decide⟩ e2) (fun r2 z2 => ?_)
  refine j_pop (pc' := 32) dX12_of_31 rfl rfl ?_
  refine j_iconst (pc' := 33) dX12_of_32 rfl ?_
  obtain rfl := Option.some.inj H
  exact j_iret dX12_of_33 ⟨by decide, by decide⟩ ⟨rfl, rfl, Or.inl rfl⟩
noncomputable def fX12_of_132  (h : Hp) : Option (Int × Hp) :=
  some (1, h)
theorem tX12_of_132 {L : Nat} {xs : Nat → Int32} {l : Launch} {res : Int × Hp}  (h : Hp)  (H : fX12_of_132  h = some res) : J L xs l RX12 cX12_of 10 false 21 (QB res) 0 0 132 [] [] h := by
  unfold fX12_of_132 at H
  refine j_iconst (pc' := 133) dX12_of_132 rfl ?_
  obtain rfl := Option.some.inj H
  exact j_iret dX12_of_133 ⟨by decide, by decide⟩ ⟨rfl, rfl, Or.inr rfl⟩
noncomputable def fX12_of_106 (k53 : Nat → Int → Int → Int → Hp → Option (Int × Hp)) (x0 : Nat) (x3 : Int) (x5 : Int) (x6 : Int) (x9 : Int) (h : Hp) : Option (Int × Hp) :=
  (getR h 11 x0 5).bind fun v1 => (ast h 0 v1 x6 x9).bind fun h2 => (c32 (x9 + 1)).bind fun _ => (c32 (x6 + 1)).bind fun _ => k53 x0 x3 (max x5 (x9 + 1)) (x6 + 1) h2
theorem tX12_of_106 {L : Nat} {xs : Nat → Int32} {l : Launch} {res : Int × Hp} (k53 : Nat → Int → Int → Int → Hp → Option (Int × Hp)) (hk53 : ∀ (x0 : Nat) (x3 : Int) (x5 : Int) (x6 : Int) (h : Hp), R64 x3 → R32 x5 → R32 x6 → k53 x0 x3 x5 x6 h = some res → J L xs l RX12 cX12_of 10 false 21 (QB res) 0 0 53 [(0, vr x0), (3, vl x3), (5, vi x5), (6, vi x6)] [] h) (x0 : Nat) (x3 : Int) (x5 : Int) (x6 : Int) (x9 : Int) (h : Hp) (rx3 : R64 x3) (rx5 : R32 x5) (rx6 : R32 x6) (rx9 : R32 x9) (H : fX12_of_106 k53 x0 x3 x5 x6 x9 h = some res) : J L xs l RX12 cX12_of 10 false 21 (QB res) 0 0 106 [(0, vr x0), (3, vl x3), (5, vi x5), (6, vi x6), (9, vi x9)] [] h := by
  unfold fX12_of_106 at H
  refine j_aload_n (i := 0) (pc' := 107) dX12_of_106 rfl rfl 0 rfl ?_
  obtain ⟨v1, e1, H⟩ := bs H
  refine j_getR (pc' := 110) dX12_of_107 rfl fl_X12_26 e1 (fun r1 => ?_)
  refine j_iload (pc' := 112) dX12_of_110 rfl 3 rfl ?_
  refine j_iload (pc' := 114) dX12_of_112 rfl 4 rfl ?_
  obtain ⟨h2, e2, H⟩ := bs H
  refine j_iast (pc' := 115) dX12_of_114 rfl rx9 e2 ?_
  refine j_iload (pc' := 117) dX12_of_115 rfl 2 rfl ?_
  refine j_iload (pc' := 119) dX12_of_117 rfl 4 rfl ?_
  refine j_iconst (pc' := 120) dX12_of_119 rfl ?_
  refine j_iadd (pc' := 121) dX12_of_120 rfl ?_
  obtain ⟨u3, e3, H⟩ := bs H
  have r3 := c32_R e3
  refine j_mmax (pc' := 124) dX12_of_121 rfl ml_X12_125 (by decide) (Nat.le_of_ble_eq_true rfl) rx5 r3 ?_
  refine j_istore (lv' := [(0, vr x0), (3, vl x3), (5, vi (max x5 (x9 + 1))), (6, vi x6), (9, vi x9)]) (pc' := 126) dX12_of_124 rfl (by decide) [1, 2, 0, 3, 4] rfl ?_
  obtain ⟨u4, e4, H⟩ := bs H
  have r4 := c32_R e4
  refine j_iinc (k0 := 3) (lv' := [(0, vr x0), (3, vl x3), (5, vi (max x5 (x9 + 1))), (6, vi (x6 + 1)), (9, vi x9)]) (pc' := 129) dX12_of_126 rfl rfl (by decide) [1, 2, 3, 0, 4] rfl ?_
  refine j_goto (tgt := 53) dX12_of_129 (by decide) ?_
  refine j_sub (lv' := [(0, vr x0), (3, vl x3), (5, vi (max x5 (x9 + 1))), (6, vi (x6 + 1))]) [0, 1, 2, 3] rfl ?_
  exact hk53 x0 x3 (max x5 (x9 + 1)) (x6 + 1) h2 rx3 (R32_max rx5 r3) r4 H
noncomputable def fX12_of_81 (k53 : Nat → Int → Int → Int → Hp → Option (Int × Hp)) : Nat → Nat → Int → Int → Int → Int → Int → Hp → Option (Int × Hp)
  | 0, _, _, _, _, _, _, _ => none
  | n + 1, x0, x3, x5, x6, x7, x9, h => if x5 ≤ x9 then (fX12_of_106 k53 x0 x3 x5 x6 x9 h) else (if (lCmp x3 x7) < 0 then (fX12_of_106 k53 x0 x3 x5 x6 x9 h) else ((c64 (x3 - x7)).bind fun _ => (c32 (x9 + 1)).bind fun _ => fX12_of_81 k53 n x0 (x3 - x7) x5 x6 x7 (x9 + 1) h))
theorem tX12_of_81 {L : Nat} {xs : Nat → Int32} {l : Launch} {res : Int × Hp} (k53 : Nat → Int → Int → Int → Hp → Option (Int × Hp)) (hk53 : ∀ (x0 : Nat) (x3 : Int) (x5 : Int) (x6 : Int) (h : Hp), R64 x3 → R32 x5 → R32 x6 → k53 x0 x3 x5 x6 h = some res → J L xs l RX12 cX12_of 10 false 21 (QB res) 0 0 53 [(0, vr x0), (3, vl x3), (5, vi x5), (6, vi x6)] [] h) : ∀ (n : Nat) (x0 : Nat) (x3 : Int) (x5 : Int) (x6 : Int) (x7 : Int) (x9 : Int) (h : Hp), R64 x3 → R32 x5 → R32 x6 → R64 x7 → R32 x9 → fX12_of_81 k53 n x0 x3 x5 x6 x7 x9 h = some res → J L xs l RX12 cX12_of 10 false 21 (QB res) 0 0 81 [(0, vr x0), (3, vl x3), (5, vi x5), (6, vi x6), (7, vl x7), (9, vi x9)] [] h := by
  intro n
  induction n with
  | zero => intro x0 x3 x5 x6 x7 x9 h rx3 rx5 rx6 rx7 rx9 H; cases H
  | succ n ih =>
    intro x0 x3 x5 x6 x7 x9 h rx3 rx5 rx6 rx7 rx9 H
    rw [fX12_of_81] at H
    refine j_iload (pc' := 83) dX12_of_81 rfl 5 rfl ?_
    refine j_iload (pc' := 85) dX12_of_83 rfl 2 rfl ?_
    refine j_icmp_ge (tgt := 106) (pc' := 88) dX12_of_85 (by decide) rfl rx9 rx5 (fun c1 => ?_) (fun c1 => ?_)
    · rw [if_pos c1] at H
      refine j_sub (lv' := [(0, vr x0), (3, vl x3), (5, vi x5), (6, vi x6), (9, vi x9)]) [0, 1, 2, 3, 5] rfl ?_
      exact tX12_of_106 _ hk53 x0 x3 x5 x6 x9 h rx3 rx5 rx6 rx9 H
    · rw [if_neg c1] at H
      refine j_lload_n (i := 3) (pc' := 89) dX12_of_88 rfl rfl 1 rfl ?_
      refine j_lload (pc' := 91) dX12_of_89 rfl 4 rfl ?_
      refine j_lcmp (pc' := 92) dX12_of_91 rfl rx3 rx7 ?_
      refine j_if_lt (tgt := 106) (pc' := 95) dX12_of_92 (by decide) rfl (R32_lcmp _ _) (fun c2 => ?_) (fun c2 => ?_)
      · rw [if_pos c2] at H
        refine j_sub (lv' := [(0, vr x0), (3, vl x3), (5, vi x5), (6, vi x6), (9, vi x9)]) [0, 1, 2, 3, 5] rfl ?_
        exact tX12_of_106 _ hk53 x0 x3 x5 x6 x9 h rx3 rx5 rx6 rx9 H
      · rw [if_neg c2] at H
        refine j_lload_n (i := 3) (pc' := 96) dX12_of_95 rfl rfl 1 rfl ?_
        refine j_lload (pc' := 98) dX12_of_96 rfl 4 rfl ?_
        refine j_lsub (pc' := 99) dX12_of_98 rfl ?_
        obtain ⟨u3, e3, H⟩ := bs H
        have r3 := c64_R e3
        refine j_lstore_n (i := 3) (lv' := [(0, vr x0), (3, vl (x3 - x7)), (5, vi x5), (6, vi x6), (7, vl x7), (9, vi x9)]) (pc' := 100) dX12_of_99 rfl rfl (by decide) [1, 0, 2, 3, 4, 5] rfl ?_
        obtain ⟨u4, e4, H⟩ := bs H
        have r4 := c32_R e4
        refine j_iinc (k0 := 5) (lv' := [(0, vr x0), (3, vl (x3 - x7)), (5, vi x5), (6, vi x6), (7, vl x7), (9, vi (x9 + 1))]) (pc' := 103) dX12_of_100 rfl rfl (by decide) [1, 2, 3, 4, 5, 0] rfl ?_
        refine j_goto (tgt := 81) dX12_of_103 (by decide) ?_
        exact ih x0 (x3 - x7) x5 x6 x7 (x9 + 1) h r3 rx5 rx6 rx7 r4 H
noncomputable def fX12_of_53 : Nat → Nat → Int → Int → Int → Hp → Option (Int × Hp)
  | 0, _, _, _, _, _ => none
  | n + 1, x0, x3, x5, x6, h => (cob h 11 x0).bind fun _ => (fX12_n x0 h).bind fun p2 => if p2.1 ≤ x6 then (fX12_of_132 p2.2) else ((cob p2.2 11 x0).bind fun _ => (fX12_n x0 p2.2).bind fun p5 => (c32 ((p5.1 - 1) - x6)).bind fun _ => (fX12_waysOn 20 ((p5.1 - 1) - x6) x5 p5.2).bind fun p7 => fX12_of_81 (fX12_of_53 n) FU x0 x3 x5 x6 p7.1 0 p7.2)
theorem tX12_of_53 {L : Nat} {xs : Nat → Int32} {l : Launch} {res : Int × Hp} : ∀ (n : Nat) (x0 : Nat) (x3 : Int) (x5 : Int) (x6 : Int) (h : Hp), R64 x3 → R32 x5 → R32 x6 → fX12_of_53 n x0 x3 x5 x6 h = some res → J L xs l RX12 cX12_of 10 false 21 (QB res) 0 0 53 [(0, vr x0), (3, vl x3), (5, vi x5), (6, vi x6)] [] h := by
  intro n
  induction n with
  | zero => intro x0 x3 x5 x6 h rx3 rx5 rx6 H; cases H
  | succ n ih =>
    intro x0 x3 x5 x6 h rx3 rx5 rx6 H
    rw [fX12_of_53] at H
    refine j_iload (pc' := 55) dX12_of_53 rfl 3 rfl ?_
    refine j_aload_n (i := 0) (pc' := 56) dX12_of_55 rfl rfl 0 rfl ?_
    obtain ⟨u1, e1, H⟩ := bs H
    obtain ⟨p2, e2, H⟩ := bs H
    refine j_cVi (y := yX12_n) (dY := 1) (vs := []) (st := [vi x6]) (q := x0) (pc' := 59) dX12_of_56 rfl ymX12_n yvX12_n ml_X12_90 (by decide) rfl (Nat.le_of_ble_eq_true rfl) (Nat.le_of_ble_eq_true rfl) e1 (tX12_n x0 h e2) (fun r2 z2 => ?_)
    refine j_icmp_ge (tgt := 132) (pc' := 62) dX12_of_59 (by decide) rfl rx6 r2 (fun c3 => ?_) (fun c3 => ?_)
    · rw [if_pos c3] at H
      refine j_sub (lv' := []) [] rfl ?_
      exact tX12_of_132   p2.2  H
    · rw [if_neg c3] at H
      refine j_aload_n (i := 0) (pc' := 63) dX12_of_62 rfl rfl 0 rfl ?_
      obtain ⟨u4, e4, H⟩ := bs H
      obtain ⟨p5, e5, H⟩ := bs H
      refine j_cVi (y := yX12_n) (dY := 1) (vs := []) (st := []) (q := x0) (pc' := 66) dX12_of_63 rfl ymX12_n yvX12_n ml_X12_90 (by decide) rfl (Nat.le_of_ble_eq_true rfl) (Nat.le_of_ble_eq_true rfl) e4 (tX12_n x0 p2.2 e5) (fun r5 z5 => ?_)
      refine j_iconst (pc' := 67) dX12_of_66 rfl ?_
      refine j_isub (pc' := 68) dX12_of_67 rfl ?_
      refine j_iload (pc' := 70) dX12_of_68 rfl 3 rfl ?_
      refine j_isub (pc' := 71) dX12_of_70 rfl ?_
      refine j_iload (pc' := 73) dX12_of_71 rfl 2 rfl ?_
      obtain ⟨u6, e6, H⟩ := bs H
      have r6 := c32_R e6
      obtain ⟨p7, e7, H⟩ := bs H
      refine j_cSl (y := yX12_waysOn) (dY := 20) (vs := [vi ((p5.1 - 1) - x6), vi x5]) (st := []) (pc' := 76) dX12_of_73 rfl ymX12_waysOn ysX12_waysOn ml_X12_215 (by decide) rfl (Nat.le_of_ble_eq_true rfl) (Nat.le_of_ble_eq_true rfl) (tX12_waysOn ((p5.1 - 1) - x6) x5 p5.2 r6 rx5 e7) (fun r7 z7 => ?_)
      refine j_lstore (lv' := [(0, vr x0), (3, vl x3), (5, vi x5), (6, vi x6), (7, vl p7.1)]) (pc' := 78) dX12_of_76 rfl (by decide) [1, 2, 3, 4, 0] rfl ?_
      refine j_iconst (pc' := 79) dX12_of_78 rfl ?_
      refine j_istore (lv' := [(0, vr x0), (3, vl x3), (5, vi x5), (6, vi x6), (7, vl p7.1), (9, vi 0)]) (pc' := 81) dX12_of_79 rfl (by decide) [1, 2, 3, 4, 5, 0] rfl ?_
      exact tX12_of_81 _ ih FU x0 x3 x5 x6 p7.1 0 p7.2 rx3 rx5 rx6 r7 ⟨by decide, by decide⟩ H
noncomputable def fX12_of (a0 : Nat) (a1 : Int) (h : Hp) : Option (Int × Hp) :=
  (putV h 11 a0 19 (vi 0)).bind fun h1 => if (lCmp a1 0) < 0 then (fX12_of_26 a0 h1) else ((cob h1 11 a0).bind fun _ => (fX12_n a0 h1).bind fun p4 => (c32 (p4.1 - 1)).bind fun _ => (fX12_waysOn 20 (p4.1 - 1) 1 p4.2).bind fun p6 => if (lCmp a1 p6.1) < 0 then ((cob p6.2 11 a0).bind fun _ => (fX12_change a0 p6.2).bind fun h9 => (getR h9 11 a0 5).bind fun v10 => (ast h9 0 v10 0 0).bind fun h11 => fX12_of_53 FU a0 a1 1 1 h11) else (fX12_of_26 a0 p6.2))
theorem tX12_of {L : Nat} {xs : Nat → Int32} {l : Launch} {res : Int × Hp} (a0 : Nat) (a1 : Int) (h : Hp) (ra1 : R64 a1) (H : fX12_of a0 a1 h = some res) : J L xs l RX12 cX12_of 10 false 21 (QB res) 0 0 0 (alv 0 [vr a0, vl a1]) [] h := by
  unfold fX12_of at H
  show J L xs l RX12 cX12_of 10 false 21 (QB res) 0 0 0 [(0, vr a0), (1, vl a1)] [] h
  refine j_aload_n (i := 0) (pc' := 1) dX12_of_0 rfl rfl 0 rfl ?_
  refine j_iconst (pc' := 2) dX12_of_1 rfl ?_
  obtain ⟨h1, e1, H⟩ := bs H
  refine j_putV (pc' := 5) dX12_of_2 rfl fp_X12_77 tI ⟨by decide, by decide⟩ e1 ?_
  refine j_lload_n (i := 1) (pc' := 6) dX12_of_5 rfl rfl 1 rfl ?_
  refine j_lconst (z := 0) (pc' := 7) dX12_of_6 rfl rfl ?_
  refine j_lcmp (pc' := 8) dX12_of_7 rfl ra1 ⟨by decide, by decide⟩ ?_
  refine j_if_lt (tgt := 26) (pc' := 11) dX12_of_8 (by decide) rfl (R32_lcmp _ _) (fun c2 => ?_) (fun c2 => ?_)
  · rw [if_pos c2] at H
    refine j_sub (lv' := [(0, vr a0)]) [0] rfl ?_
    exact tX12_of_26   a0 h1  H
  · rw [if_neg c2] at H
    refine j_lload_n (i := 1) (pc' := 12) dX12_of_11 rfl rfl 1 rfl ?_
    refine j_aload_n (i := 0) (pc' := 13) dX12_of_12 rfl rfl 0 rfl ?_
    obtain ⟨u3, e3, H⟩ := bs H
    obtain ⟨p4, e4, H⟩ := bs H
    refine j_cVi (y := yX12_n) (dY := 1) (vs := []) (st := [vl a1]) (q := a0) (pc' := 16) dX12_of_13 rfl ymX12_n yvX12_n ml_X12_90 (by decide) rfl (Nat.le_of_ble_eq_true rfl) (Nat.le_of_ble_eq_true rfl) e3 (tX12_n a0 h1 e4) (fun r4 z4 => ?_)
    refine j_iconst (pc' := 17) dX12_of_16 rfl ?_
    refine j_isub (pc' := 18) dX12_of_17 rfl ?_
    refine j_iconst (pc' := 19) dX12_of_18 rfl ?_
    obtain ⟨u5, e5, H⟩ := bs H
    have r5 := c32_R e5
    obtain ⟨p6, e6, H⟩ := bs H
    refine j_cSl (y := yX12_waysOn) (dY := 20) (vs := [vi (p4.1 - 1), vi 1]) (st := [vl a1]) (pc' := 22) dX12_of_19 rfl ymX12_waysOn ysX12_waysOn ml_X12_215 (by decide) rfl (Nat.le_of_ble_eq_true rfl) (Nat.le_of_ble_eq_true rfl) (tX12_waysOn (p4.1 - 1) 1 p4.2 r5 ⟨by decide, by decide⟩ e6) (fun r6 z6 => ?_)
    refine j_lcmp (pc' := 23) dX12_of_22 rfl ra1 r6 ?_
    refine j_if_lt (tgt := 34) (pc' := 26) dX12_of_23 (by decide) rfl (R32_lcmp _ _) (fun c7 => ?_) (fun c7 => ?_)
    · rw [if_pos c7] at H
      refine j_aload_n (i := 0) (pc' := 35) dX12_of_34 rfl rfl 0 rfl ?_
      obtain ⟨u8, e8, H⟩ := bs H
      obtain ⟨h9, e9, H⟩ := bs H
      refine j_cVv (y := yX12_change) (dY := 2) (vs := []) (st := []) (q := a0) (pc' := 38) dX12_of_35 rfl ymX12_change yvX12_change ml_X12_102 (by decide) rfl (Nat.le_of_ble_eq_true rfl) (Nat.le_of_ble_eq_true rfl) e8 (tX12_change a0 p6.2 e9) (fun z9 => ?_)
      refine j_lload_n (i := 1) (pc' := 39) dX12_of_38 rfl rfl 1 rfl ?_
      refine j_lstore_n (i := 3) (lv' := [(0, vr a0), (1, vl a1), (3, vl a1)]) (pc' := 40) dX12_of_39 rfl rfl (by decide) [1, 2, 0] rfl ?_
      refine j_iconst (pc' := 41) dX12_of_40 rfl ?_
      refine j_istore (lv' := [(0, vr a0), (1, vl a1), (3, vl a1), (5, vi 1)]) (pc' := 43) dX12_of_41 rfl (by decide) [1, 2, 3, 0] rfl ?_
      refine j_aload_n (i := 0) (pc' := 44) dX12_of_43 rfl rfl 0 rfl ?_
      obtain ⟨v10, e10, H⟩ := bs H
      refine j_getR (pc' := 47) dX12_of_44 rfl fl_X12_26 e10 (fun r10 => ?_)
      refine j_iconst (pc' := 48) dX12_of_47 rfl ?_
      refine j_iconst (pc' := 49) dX12_of_48 rfl ?_
      obtain ⟨h11, e11, H⟩ := bs H
      refine j_iast (pc' := 50) dX12_of_49 rfl ⟨by decide, by decide⟩ e11 ?_
      refine j_iconst (pc' := 51) dX12_of_50 rfl ?_
      refine j_istore (lv' := [(0, vr a0), (1, vl a1), (3, vl a1), (5, vi 1), (6, vi 1)]) (pc' := 53) dX12_of_51 rfl (by decide) [1, 2, 3, 4, 0] rfl ?_
      refine j_sub (lv' := [(0, vr a0), (3, vl a1), (5, vi 1), (6, vi 1)]) [0, 2, 3, 4] rfl ?_
      exact tX12_of_53   FU a0 a1 1 1 h11 ra1 ⟨by decide, by decide⟩ ⟨by decide, by decide⟩ H
    · rw [if_neg c7] at H
      refine j_sub (lv' := [(0, vr a0)]) [0] rfl ?_
      exact tX12_of_26   a0 p6.2  H
-- X12_keep
noncomputable def fX12_keep_14 (x0 : Nat) (h : Hp) : Option (Int × Hp) :=
  (cob h 11 x0).bind fun _ => (fX12_no x0 1 h).bind fun p2 => some (0, p2.2)
theorem tX12_keep_14 {L : Nat} {xs : Nat → Int32} {l : Launch} {res : Int × Hp} (x0 : Nat) (h : Hp)  (H : fX12_keep_14 x0 h = some res) : J L xs l RX12 cX12_keep 3 false 2 (QB res) 0 0 14 [(0, vr x0)] [] h := by
  unfold fX12_keep_14 at H
  refine j_aload_n (i := 0) (pc' := 15) dX12_keep_14 rfl rfl 0 rfl ?_
  refine j_iconst (pc' := 16) dX12_keep_15 rfl ?_
  obtain ⟨u1, e1, H⟩ := bs H
  obtain ⟨p2, e2, H⟩ := bs H
  refine j_cVi (y := yX12_no) (dY := 1) (vs := [vi 1]) (st := []) (q := x0) (pc' := 19) dX12_keep_16 rfl ymX12_no yvX12_no ml_X12_98 (by decide) rfl (Nat.le_of_ble_eq_true rfl) (Nat.le_of_ble_eq_true rfl) e1 (tX12_no x0 1 h ⟨by decide, by decide⟩ e2) (fun r2 z2 => ?_)
  refine j_pop (pc' := 20) dX12_keep_19 rfl rfl ?_
  refine j_iconst (pc' := 21) dX12_keep_20 rfl ?_
  obtain rfl := Option.some.inj H
  exact j_iret dX12_keep_21 ⟨by decide, by decide⟩ ⟨rfl, rfl, Or.inl rfl⟩
noncomputable def fX12_keep_65  (h : Hp) : Option (Int × Hp) :=
  some (1, h)
theorem tX12_keep_65 {L : Nat} {xs : Nat → Int32} {l : Launch} {res : Int × Hp}  (h : Hp)  (H : fX12_keep_65  h = some res) : J L xs l RX12 cX12_keep 3 false 2 (QB res) 0 0 65 [] [] h := by
  unfold fX12_keep_65 at H
  refine j_iconst (pc' := 66) dX12_keep_65 rfl ?_
  obtain rfl := Option.some.inj H
  exact j_iret dX12_keep_66 ⟨by decide, by decide⟩ ⟨rfl, rfl, Or.inr rfl⟩
noncomputable def fX12_keep_34 : Nat → Nat → Int → Int → Hp → Option (Int × Hp)
  | 0, _, _, _, _ => none
  | n + 1, x0, x1, x2, h => (cob h 11 x0).bind fun _ => (fX12_n x0 h).bind fun p2 => if p2.1 ≤ x2 then (fX12_keep_65 p2.2) else ((getR p2.2 11 x0 16).bind fun v4 => (getR p2.2 11 x0 5).bind fun v5 => (ald p2.2 0 v5 x2).bind fun v6 => (ast p2.2 0 v4 ((12 * x1) + x2) v6).bind fun h7 => (c32 (x2 + 1)).bind fun _ => fX12_keep_34 n x0 x1 (x2 + 1) h7)
theorem tX12_keep_34 {L : Nat} {xs : Nat → Int32} {l : Launch} {res : Int × Hp} : ∀ (n : Nat) (x0 : Nat) (x1 : Int) (x2 : Int) (h : Hp), R32 x1 → R32 x2 → fX12_keep_34 n x0 x1 x2 h = some res → J L xs l RX12 cX12_keep 3 false 2 (QB res) 0 0 34 [(0, vr x0), (1, vi x1), (2, vi x2)] [] h := by
  intro n
  induction n with
  | zero => intro x0 x1 x2 h rx1 rx2 H; cases H
  | succ n ih =>
    intro x0 x1 x2 h rx1 rx2 H
    rw [fX12_keep_34] at H
    refine j_iload_n (i := 2) (pc' := 35) dX12_keep_34 rfl rfl 2 rfl ?_
    refine j_aload_n (i := 0) (pc' := 36) dX12_keep_35 rfl rfl 0 rfl ?_
    obtain ⟨u1, e1, H⟩ := bs H
    obtain ⟨p2, e2, H⟩ := bs H
    refine j_cVi (y := yX12_n) (dY := 1) (vs := []) (st := [vi x2]) (q := x0) (pc' := 39) dX12_keep_36 rfl ymX12_n yvX12_n ml_X12_90 (by decide) rfl (Nat.le_of_ble_eq_true rfl) (Nat.le_of_ble_eq_true rfl) e1 (tX12_n x0 h e2) (fun r2 z2 => ?_)
    refine j_icmp_ge (tgt := 65) (pc' := 42) dX12_keep_39 (by decide) rfl rx2 r2 (fun c3 => ?_) (fun c3 => ?_)
    · rw [if_pos c3] at H
      refine j_sub (lv' := []) [] rfl ?_
      exact tX12_keep_65   p2.2  H
    · rw [if_neg c3] at H
      refine j_aload_n (i := 0) (pc' := 43) dX12_keep_42 rfl rfl 0 rfl ?_
      obtain ⟨v4, e4, H⟩ := bs H
      refine j_getR (pc' := 46) dX12_keep_43 rfl fl_X12_52 e4 (fun r4 => ?_)
      refine j_bipush (pc' := 48) dX12_keep_46 rfl (by decide +kernel) ?_
      refine j_iload_n (i := 1) (pc' := 49) dX12_keep_48 rfl rfl 1 rfl ?_
      refine j_imul (pc' := 50) dX12_keep_49 rfl ?_
      refine j_iload_n (i := 2) (pc' := 51) dX12_keep_50 rfl rfl 2 rfl ?_
      refine j_iadd (pc' := 52) dX12_keep_51 rfl ?_
      refine j_aload_n (i := 0) (pc' := 53) dX12_keep_52 rfl rfl 0 rfl ?_
      obtain ⟨v5, e5, H⟩ := bs H
      refine j_getR (pc' := 56) dX12_keep_53 rfl fl_X12_26 e5 (fun r5 => ?_)
      refine j_iload_n (i := 2) (pc' := 57) dX12_keep_56 rfl rfl 2 rfl ?_
      obtain ⟨v6, e6, H⟩ := bs H
      refine j_iald (pc' := 58) dX12_keep_57 rfl e6 (fun r6 => ?_)
      obtain ⟨h7, e7, H⟩ := bs H
      refine j_iast (pc' := 59) dX12_keep_58 rfl r6 e7 ?_
      obtain ⟨u8, e8, H⟩ := bs H
      have r8 := c32_R e8
      refine j_iinc (k0 := 2) (lv' := [(0, vr x0), (1, vi x1), (2, vi (x2 + 1))]) (pc' := 62) dX12_keep_59 rfl rfl (by decide) [1, 2, 0] rfl ?_
      refine j_goto (tgt := 34) dX12_keep_62 (by decide) ?_
      exact ih x0 x1 (x2 + 1) h7 rx1 r8 H
noncomputable def fX12_keep (a0 : Nat) (a1 : Int) (h : Hp) : Option (Int × Hp) :=
  (putV h 11 a0 19 (vi 0)).bind fun h1 => if a1 < 0 then (fX12_keep_14 a0 h1) else (if a1 < 4 then ((getR h1 11 a0 15).bind fun v4 => (cob h1 11 a0).bind fun _ => (fX12_n a0 h1).bind fun p6 => (ast p6.2 0 v4 a1 p6.1).bind fun h7 => fX12_keep_34 FU a0 a1 0 h7) else (fX12_keep_14 a0 h1))
theorem tX12_keep {L : Nat} {xs : Nat → Int32} {l : Launch} {res : Int × Hp} (a0 : Nat) (a1 : Int) (h : Hp) (ra1 : R32 a1) (H : fX12_keep a0 a1 h = some res) : J L xs l RX12 cX12_keep 3 false 2 (QB res) 0 0 0 (alv 0 [vr a0, vi a1]) [] h := by
  unfold fX12_keep at H
  show J L xs l RX12 cX12_keep 3 false 2 (QB res) 0 0 0 [(0, vr a0), (1, vi a1)] [] h
  refine j_aload_n (i := 0) (pc' := 1) dX12_keep_0 rfl rfl 0 rfl ?_
  refine j_iconst (pc' := 2) dX12_keep_1 rfl ?_
  obtain ⟨h1, e1, H⟩ := bs H
  refine j_putV (pc' := 5) dX12_keep_2 rfl fp_X12_77 tI ⟨by decide, by decide⟩ e1 ?_
  refine j_iload_n (i := 1) (pc' := 6) dX12_keep_5 rfl rfl 1 rfl ?_
  refine j_if_lt (tgt := 14) (pc' := 9) dX12_keep_6 (by decide) rfl ra1 (fun c2 => ?_) (fun c2 => ?_)
  · rw [if_pos c2] at H
    refine j_sub (lv' := [(0, vr a0)]) [0] rfl ?_
    exact tX12_keep_14   a0 h1  H
  · rw [if_neg c2] at H
    refine j_iload_n (i := 1) (pc' := 10) dX12_keep_9 rfl rfl 1 rfl ?_
    refine j_iconst (pc' := 11) dX12_keep_10 rfl ?_
    refine j_icmp_lt (tgt := 22) (pc' := 14) dX12_keep_11 (by decide) rfl ra1 ⟨by decide, by decide⟩ (fun c3 => ?_) (fun c3 => ?_)
    · rw [if_pos c3] at H
      refine j_aload_n (i := 0) (pc' := 23) dX12_keep_22 rfl rfl 0 rfl ?_
      obtain ⟨v4, e4, H⟩ := bs H
      refine j_getR (pc' := 26) dX12_keep_23 rfl fl_X12_49 e4 (fun r4 => ?_)
      refine j_iload_n (i := 1) (pc' := 27) dX12_keep_26 rfl rfl 1 rfl ?_
      refine j_aload_n (i := 0) (pc' := 28) dX12_keep_27 rfl rfl 0 rfl ?_
      obtain ⟨u5, e5, H⟩ := bs H
      obtain ⟨p6, e6, H⟩ := bs H
      refine j_cVi (y := yX12_n) (dY := 1) (vs := []) (st := [vi a1, vr v4]) (q := a0) (pc' := 31) dX12_keep_28 rfl ymX12_n yvX12_n ml_X12_90 (by decide) rfl (Nat.le_of_ble_eq_true rfl) (Nat.le_of_ble_eq_true rfl) e5 (tX12_n a0 h1 e6) (fun r6 z6 => ?_)
      obtain ⟨h7, e7, H⟩ := bs H
      refine j_iast (pc' := 32) dX12_keep_31 rfl r6 e7 ?_
      refine j_iconst (pc' := 33) dX12_keep_32 rfl ?_
      refine j_istore_n (i := 2) (lv' := [(0, vr a0), (1, vi a1), (2, vi 0)]) (pc' := 34) dX12_keep_33 rfl rfl (by decide) [1, 2, 0] rfl ?_
      exact tX12_keep_34   FU a0 a1 0 h7 ra1 ⟨by decide, by decide⟩ H
    · rw [if_neg c3] at H
      refine j_sub (lv' := [(0, vr a0)]) [0] rfl ?_
      exact tX12_keep_14   a0 h1  H
-- X12_keepWhy
noncomputable def fX12_keepWhy_31 (s0 : Int) (h : Hp) : Option (Int × Hp) :=
  some (s0, h)
theorem tX12_keepWhy_31 {L : Nat} {xs : Nat → Int32} {l : Launch} {res : Int × Hp} (s0 : Int) (h : Hp) (rs0 : R32 s0) (H : fX12_keepWhy_31 s0 h = some res) : J L xs l RX12 cX12_keepWhy 2 false 2 (QI res) 0 0 31 [] [vi s0] h := by
  unfold fX12_keepWhy_31 at H
  obtain rfl := Option.some.inj H
  exact j_iret dX12_keepWhy_31 rs0 ⟨rfl, rfl⟩
noncomputable def fX12_keepWhy_9  (h : Hp) : Option (Int × Hp) :=
  fX12_keepWhy_31 1 h
theorem tX12_keepWhy_9 {L : Nat} {xs : Nat → Int32} {l : Launch} {res : Int × Hp}  (h : Hp)  (H : fX12_keepWhy_9  h = some res) : J L xs l RX12 cX12_keepWhy 2 false 2 (QI res) 0 0 9 [] [] h := by
  unfold fX12_keepWhy_9 at H
  refine j_iconst (pc' := 10) dX12_keepWhy_9 rfl ?_
  refine j_goto (tgt := 31) dX12_keepWhy_10 (by decide) ?_
  exact tX12_keepWhy_31   1 h ⟨by decide, by decide⟩ H
noncomputable def fX12_keepWhy (a0 : Nat) (a1 : Int) (h : Hp) : Option (Int × Hp) :=
  if a1 < 0 then (fX12_keepWhy_9 h) else (if a1 < 4 then ((getR h 11 a0 15).bind fun v3 => (ald h 0 v3 a1).bind fun v4 => (cob h 11 a0).bind fun _ => (fX12_n a0 h).bind fun p6 => if v4 = p6.1 then (fX12_keepWhy_31 0 p6.2) else (fX12_keepWhy_31 2 p6.2)) else (fX12_keepWhy_9 h))
theorem tX12_keepWhy {L : Nat} {xs : Nat → Int32} {l : Launch} {res : Int × Hp} (a0 : Nat) (a1 : Int) (h : Hp) (ra1 : R32 a1) (H : fX12_keepWhy a0 a1 h = some res) : J L xs l RX12 cX12_keepWhy 2 false 2 (QI res) 0 0 0 (alv 0 [vr a0, vi a1]) [] h := by
  unfold fX12_keepWhy at H
  show J L xs l RX12 cX12_keepWhy 2 false 2 (QI res) 0 0 0 [(0, vr a0), (1, vi a1)] [] h
  refine j_iload_n (i := 1) (pc' := 1) dX12_keepWhy_0 rfl rfl 1 rfl ?_
  refine j_if_lt (tgt := 9) (pc' := 4) dX12_keepWhy_1 (by decide) rfl ra1 (fun c1 => ?_) (fun c1 => ?_)
  · rw [if_pos c1] at H
    refine j_sub (lv' := []) [] rfl ?_
    exact tX12_keepWhy_9   h  H
  · rw [if_neg c1] at H
    refine j_iload_n (i := 1) (pc' := 5) dX12_keepWhy_4 rfl rfl 1 rfl ?_
    refine j_iconst (pc' := 6) dX12_keepWhy_5 rfl ?_
    refine j_icmp_lt (tgt := 13) (pc' := 9) dX12_keepWhy_6 (by decide) rfl ra1 ⟨by decide, by decide⟩ (fun c2 => ?_) (fun c2 => ?_)
    · rw [if_pos c2] at H
      refine j_aload_n (i := 0) (pc' := 14) dX12_keepWhy_13 rfl rfl 0 rfl ?_
      obtain ⟨v3, e3, H⟩ := bs H
      refine j_getR (pc' := 17) dX12_keepWhy_14 rfl fl_X12_49 e3 (fun r3 => ?_)
      refine j_iload_n (i := 1) (pc' := 18) dX12_keepWhy_17 rfl rfl 1 rfl ?_
      obtain ⟨v4, e4, H⟩ := bs H
      refine j_iald (pc' := 19) dX12_keepWhy_18 rfl e4 (fun r4 => ?_)
      refine j_aload_n (i := 0) (pc' := 20) dX12_keepWhy_19 rfl rfl 0 rfl ?_
      obtain ⟨u5, e5, H⟩ := bs H
      obtain ⟨p6, e6, H⟩ := bs H
      refine j_cVi (y := yX12_n) (dY := 1) (vs := []) (st := [vi v4]) (q := a0) (pc' := 23) dX12_keepWhy_20 rfl ymX12_n yvX12_n ml_X12_90 (by decide) rfl (Nat.le_of_ble_eq_true rfl) (Nat.le_of_ble_eq_true rfl) e5 (tX12_n a0 h e6) (fun r6 z6 => ?_)
      refine j_icmp_eq (tgt := 30) (pc' := 26) dX12_keepWhy_23 (by decide) rfl r4 r6 (fun c7 => ?_) (fun c7 => ?_)
      · rw [if_pos c7] at H
        refine j_iconst (pc' := 31) dX12_keepWhy_30 rfl ?_
        refine j_sub (lv' := []) [] rfl ?_
        exact tX12_keepWhy_31   0 p6.2 ⟨by decide, by decide⟩ H
      · rw [if_neg c7] at H
        refine j_iconst (pc' := 27) dX12_keepWhy_26 rfl ?_
        refine j_goto (tgt := 31) dX12_keepWhy_27 (by decide) ?_
        refine j_sub (lv' := []) [] rfl ?_
        exact tX12_keepWhy_31   2 p6.2 ⟨by decide, by decide⟩ H
    · rw [if_neg c2] at H
      refine j_sub (lv' := []) [] rfl ?_
      exact tX12_keepWhy_9   h  H
-- X12_differ
noncomputable def fX12_differ_119 (x2 : Int) (h : Hp) : Option (Int × Hp) :=
  some (x2, h)
theorem tX12_differ_119 {L : Nat} {xs : Nat → Int32} {l : Launch} {res : Int × Hp} (x2 : Int) (h : Hp) (rx2 : R32 x2) (H : fX12_differ_119 x2 h = some res) : J L xs l RX12 cX12_differ 5 false 3 (QI res) 0 0 119 [(2, vi x2)] [] h := by
  unfold fX12_differ_119 at H
  refine j_iload_n (i := 2) (pc' := 120) dX12_differ_119 rfl rfl 0 rfl ?_
  obtain rfl := Option.some.inj H
  exact j_iret dX12_differ_120 rx2 ⟨rfl, rfl⟩
noncomputable def fX12_differ_113 (k27 : Nat → Int → Int → Int → Hp → Option (Int × Hp)) (x0 : Nat) (x1 : Int) (x2 : Int) (x3 : Int) (h : Hp) : Option (Int × Hp) :=
  (c32 (x3 + 1)).bind fun _ => k27 x0 x1 x2 (x3 + 1) h
theorem tX12_differ_113 {L : Nat} {xs : Nat → Int32} {l : Launch} {res : Int × Hp} (k27 : Nat → Int → Int → Int → Hp → Option (Int × Hp)) (hk27 : ∀ (x0 : Nat) (x1 : Int) (x2 : Int) (x3 : Int) (h : Hp), R32 x1 → R32 x2 → R32 x3 → k27 x0 x1 x2 x3 h = some res → J L xs l RX12 cX12_differ 5 false 3 (QI res) 0 0 27 [(0, vr x0), (1, vi x1), (2, vi x2), (3, vi x3)] [] h) (x0 : Nat) (x1 : Int) (x2 : Int) (x3 : Int) (h : Hp) (rx1 : R32 x1) (rx2 : R32 x2) (rx3 : R32 x3) (H : fX12_differ_113 k27 x0 x1 x2 x3 h = some res) : J L xs l RX12 cX12_differ 5 false 3 (QI res) 0 0 113 [(0, vr x0), (1, vi x1), (2, vi x2), (3, vi x3)] [] h := by
  unfold fX12_differ_113 at H
  obtain ⟨u1, e1, H⟩ := bs H
  have r1 := c32_R e1
  refine j_iinc (k0 := 3) (lv' := [(0, vr x0), (1, vi x1), (2, vi x2), (3, vi (x3 + 1))]) (pc' := 116) dX12_differ_113 rfl rfl (by decide) [1, 2, 3, 0] rfl ?_
  refine j_goto (tgt := 27) dX12_differ_116 (by decide) ?_
  exact hk27 x0 x1 x2 (x3 + 1) h rx1 rx2 r1 H
noncomputable def fX12_differ_107 (k27 : Nat → Int → Int → Int → Hp → Option (Int × Hp)) (k40 : Nat → Int → Int → Int → Int → Hp → Option (Int × Hp)) (x0 : Nat) (x1 : Int) (x2 : Int) (x3 : Int) (x4 : Int) (h : Hp) : Option (Int × Hp) :=
  (c32 (x4 + 1)).bind fun _ => k40 x0 x1 x2 x3 (x4 + 1) h
theorem tX12_differ_107 {L : Nat} {xs : Nat → Int32} {l : Launch} {res : Int × Hp} (k27 : Nat → Int → Int → Int → Hp → Option (Int × Hp)) (k40 : Nat → Int → Int → Int → Int → Hp → Option (Int × Hp)) (hk27 : ∀ (x0 : Nat) (x1 : Int) (x2 : Int) (x3 : Int) (h : Hp), R32 x1 → R32 x2 → R32 x3 → k27 x0 x1 x2 x3 h = some res → J L xs l RX12 cX12_differ 5 false 3 (QI res) 0 0 27 [(0, vr x0), (1, vi x1), (2, vi x2), (3, vi x3)] [] h) (hk40 : ∀ (x0 : Nat) (x1 : Int) (x2 : Int) (x3 : Int) (x4 : Int) (h : Hp), R32 x1 → R32 x2 → R32 x3 → R32 x4 → k40 x0 x1 x2 x3 x4 h = some res → J L xs l RX12 cX12_differ 5 false 3 (QI res) 0 0 40 [(0, vr x0), (1, vi x1), (2, vi x2), (3, vi x3), (4, vi x4)] [] h) (x0 : Nat) (x1 : Int) (x2 : Int) (x3 : Int) (x4 : Int) (h : Hp) (rx1 : R32 x1) (rx2 : R32 x2) (rx3 : R32 x3) (rx4 : R32 x4) (H : fX12_differ_107 k27 k40 x0 x1 x2 x3 x4 h = some res) : J L xs l RX12 cX12_differ 5 false 3 (QI res) 0 0 107 [(0, vr x0), (1, vi x1), (2, vi x2), (3, vi x3), (4, vi x4)] [] h := by
  unfold fX12_differ_107 at H
  obtain ⟨u1, e1, H⟩ := bs H
  have r1 := c32_R e1
  refine j_iinc (k0 := 4) (lv' := [(0, vr x0), (1, vi x1), (2, vi x2), (3, vi x3), (4, vi (x4 + 1))]) (pc' := 110) dX12_differ_107 rfl rfl (by decide) [1, 2, 3, 4, 0] rfl ?_
  refine j_goto (tgt := 40) dX12_differ_110 (by decide) ?_
  exact hk40 x0 x1 x2 x3 (x4 + 1) h rx1 rx2 rx3 r1 H
noncomputable def fX12_differ_101 (k27 : Nat → Int → Int → Int → Hp → Option (Int × Hp)) (k40 : Nat → Int → Int → Int → Int → Hp → Option (Int × Hp)) (x0 : Nat) (x1 : Int) (x2 : Int) (x3 : Int) (x4 : Int) (s0 : Int) (s1 : Int) (h : Hp) : Option (Int × Hp) :=
  if s1 = s0 then (fX12_differ_107 k27 k40 x0 x1 x2 x3 x4 h) else ((c32 (x2 + 1)).bind fun _ => fX12_differ_107 k27 k40 x0 x1 (x2 + 1) x3 x4 h)
theorem tX12_differ_101 {L : Nat} {xs : Nat → Int32} {l : Launch} {res : Int × Hp} (k27 : Nat → Int → Int → Int → Hp → Option (Int × Hp)) (k40 : Nat → Int → Int → Int → Int → Hp → Option (Int × Hp)) (hk27 : ∀ (x0 : Nat) (x1 : Int) (x2 : Int) (x3 : Int) (h : Hp), R32 x1 → R32 x2 → R32 x3 → k27 x0 x1 x2 x3 h = some res → J L xs l RX12 cX12_differ 5 false 3 (QI res) 0 0 27 [(0, vr x0), (1, vi x1), (2, vi x2), (3, vi x3)] [] h) (hk40 : ∀ (x0 : Nat) (x1 : Int) (x2 : Int) (x3 : Int) (x4 : Int) (h : Hp), R32 x1 → R32 x2 → R32 x3 → R32 x4 → k40 x0 x1 x2 x3 x4 h = some res → J L xs l RX12 cX12_differ 5 false 3 (QI res) 0 0 40 [(0, vr x0), (1, vi x1), (2, vi x2), (3, vi x3), (4, vi x4)] [] h) (x0 : Nat) (x1 : Int) (x2 : Int) (x3 : Int) (x4 : Int) (s0 : Int) (s1 : Int) (h : Hp) (rx1 : R32 x1) (rx2 : R32 x2) (rx3 : R32 x3) (rx4 : R32 x4) (rs0 : R32 s0) (rs1 : R32 s1) (H : fX12_differ_101 k27 k40 x0 x1 x2 x3 x4 s0 s1 h = some res) : J L xs l RX12 cX12_differ 5 false 3 (QI res) 0 0 101 [(0, vr x0), (1, vi x1), (2, vi x2), (3, vi x3), (4, vi x4)] [vi s0, vi s1] h := by
  unfold fX12_differ_101 at H
  refine j_icmp_eq (tgt := 107) (pc' := 104) dX12_differ_101 (by decide) rfl rs1 rs0 (fun c1 => ?_) (fun c1 => ?_)
  · rw [if_pos c1] at H
    exact tX12_differ_107 _ _ hk27 hk40 x0 x1 x2 x3 x4 h rx1 rx2 rx3 rx4 H
  · rw [if_neg c1] at H
    obtain ⟨u2, e2, H⟩ := bs H
    have r2 := c32_R e2
    refine j_iinc (k0 := 2) (lv' := [(0, vr x0), (1, vi x1), (2, vi (x2 + 1)), (3, vi x3), (4, vi x4)]) (pc' := 107) dX12_differ_104 rfl rfl (by decide) [1, 2, 0, 3, 4] rfl ?_
    exact tX12_differ_107 _ _ hk27 hk40 x0 x1 (x2 + 1) x3 x4 h rx1 r2 rx3 rx4 H
noncomputable def fX12_differ_70 (k27 : Nat → Int → Int → Int → Hp → Option (Int × Hp)) (k40 : Nat → Int → Int → Int → Int → Hp → Option (Int × Hp)) (x0 : Nat) (x1 : Int) (x2 : Int) (x3 : Int) (x4 : Int) (s0 : Int) (h : Hp) : Option (Int × Hp) :=
  (getR h 11 x0 16).bind fun v1 => (ald h 0 v1 ((12 * x1) + x3)).bind fun v2 => (getR h 11 x0 16).bind fun v3 => (ald h 0 v3 ((12 * x1) + x4)).bind fun v4 => if v2 = v4 then (fX12_differ_101 k27 k40 x0 x1 x2 x3 x4 1 s0 h) else (fX12_differ_101 k27 k40 x0 x1 x2 x3 x4 0 s0 h)
theorem tX12_differ_70 {L : Nat} {xs : Nat → Int32} {l : Launch} {res : Int × Hp} (k27 : Nat → Int → Int → Int → Hp → Option (Int × Hp)) (k40 : Nat → Int → Int → Int → Int → Hp → Option (Int × Hp)) (hk27 : ∀ (x0 : Nat) (x1 : Int) (x2 : Int) (x3 : Int) (h : Hp), R32 x1 → R32 x2 → R32 x3 → k27 x0 x1 x2 x3 h = some res → J L xs l RX12 cX12_differ 5 false 3 (QI res) 0 0 27 [(0, vr x0), (1, vi x1), (2, vi x2), (3, vi x3)] [] h) (hk40 : ∀ (x0 : Nat) (x1 : Int) (x2 : Int) (x3 : Int) (x4 : Int) (h : Hp), R32 x1 → R32 x2 → R32 x3 → R32 x4 → k40 x0 x1 x2 x3 x4 h = some res → J L xs l RX12 cX12_differ 5 false 3 (QI res) 0 0 40 [(0, vr x0), (1, vi x1), (2, vi x2), (3, vi x3), (4, vi x4)] [] h) (x0 : Nat) (x1 : Int) (x2 : Int) (x3 : Int) (x4 : Int) (s0 : Int) (h : Hp) (rx1 : R32 x1) (rx2 : R32 x2) (rx3 : R32 x3) (rx4 : R32 x4) (rs0 : R32 s0) (H : fX12_differ_70 k27 k40 x0 x1 x2 x3 x4 s0 h = some res) : J L xs l RX12 cX12_differ 5 false 3 (QI res) 0 0 70 [(0, vr x0), (1, vi x1), (2, vi x2), (3, vi x3), (4, vi x4)] [vi s0] h := by
  unfold fX12_differ_70 at H
  refine j_aload_n (i := 0) (pc' := 71) dX12_differ_70 rfl rfl 0 rfl ?_
  obtain ⟨v1, e1, H⟩ := bs H
  refine j_getR (pc' := 74) dX12_differ_71 rfl fl_X12_52 e1 (fun r1 => ?_)
  refine j_bipush (pc' := 76) dX12_differ_74 rfl (by decide +kernel) ?_
  refine j_iload_n (i := 1) (pc' := 77) dX12_differ_76 rfl rfl 1 rfl ?_
  refine j_imul (pc' := 78) dX12_differ_77 rfl ?_
  refine j_iload_n (i := 3) (pc' := 79) dX12_differ_78 rfl rfl 3 rfl ?_
  refine j_iadd (pc' := 80) dX12_differ_79 rfl ?_
  obtain ⟨v2, e2, H⟩ := bs H
  refine j_iald (pc' := 81) dX12_differ_80 rfl e2 (fun r2 => ?_)
  refine j_aload_n (i := 0) (pc' := 82) dX12_differ_81 rfl rfl 0 rfl ?_
  obtain ⟨v3, e3, H⟩ := bs H
  refine j_getR (pc' := 85) dX12_differ_82 rfl fl_X12_52 e3 (fun r3 => ?_)
  refine j_bipush (pc' := 87) dX12_differ_85 rfl (by decide +kernel) ?_
  refine j_iload_n (i := 1) (pc' := 88) dX12_differ_87 rfl rfl 1 rfl ?_
  refine j_imul (pc' := 89) dX12_differ_88 rfl ?_
  refine j_iload (pc' := 91) dX12_differ_89 rfl 4 rfl ?_
  refine j_iadd (pc' := 92) dX12_differ_91 rfl ?_
  obtain ⟨v4, e4, H⟩ := bs H
  refine j_iald (pc' := 93) dX12_differ_92 rfl e4 (fun r4 => ?_)
  refine j_icmp_ne (tgt := 100) (pc' := 96) dX12_differ_93 (by decide) rfl r2 r4 (fun c5 => ?_) (fun c5 => ?_)
  · rw [if_neg c5] at H
    refine j_iconst (pc' := 101) dX12_differ_100 rfl ?_
    exact tX12_differ_101 _ _ hk27 hk40 x0 x1 x2 x3 x4 0 s0 h rx1 rx2 rx3 rx4 ⟨by decide, by decide⟩ rs0 H
  · rw [if_pos c5] at H
    refine j_iconst (pc' := 97) dX12_differ_96 rfl ?_
    refine j_goto (tgt := 101) dX12_differ_97 (by decide) ?_
    exact tX12_differ_101 _ _ hk27 hk40 x0 x1 x2 x3 x4 1 s0 h rx1 rx2 rx3 rx4 ⟨by decide, by decide⟩ rs0 H
noncomputable def fX12_differ_40 (k27 : Nat → Int → Int → Int → Hp → Option (Int × Hp)) : Nat → Nat → Int → Int → Int → Int → Hp → Option (Int × Hp)
  | 0, _, _, _, _, _, _ => none
  | n + 1, x0, x1, x2, x3, x4, h => (cob h 11 x0).bind fun _ => (fX12_n x0 h).bind fun p2 => if p2.1 ≤ x4 then (fX12_differ_113 k27 x0 x1 x2 x3 p2.2) else ((getR p2.2 11 x0 5).bind fun v4 => (ald p2.2 0 v4 x3).bind fun v5 => (getR p2.2 11 x0 5).bind fun v6 => (ald p2.2 0 v6 x4).bind fun v7 => if v5 = v7 then (fX12_differ_70 k27 (fX12_differ_40 k27 n) x0 x1 x2 x3 x4 1 p2.2) else (fX12_differ_70 k27 (fX12_differ_40 k27 n) x0 x1 x2 x3 x4 0 p2.2))
theorem tX12_differ_40 {L : Nat} {xs : Nat → Int32} {l : Launch} {res : Int × Hp} (k27 : Nat → Int → Int → Int → Hp → Option (Int × Hp)) (hk27 : ∀ (x0 : Nat) (x1 : Int) (x2 : Int) (x3 : Int) (h : Hp), R32 x1 → R32 x2 → R32 x3 → k27 x0 x1 x2 x3 h = some res → J L xs l RX12 cX12_differ 5 false 3 (QI res) 0 0 27 [(0, vr x0), (1, vi x1), (2, vi x2), (3, vi x3)] [] h) : ∀ (n : Nat) (x0 : Nat) (x1 : Int) (x2 : Int) (x3 : Int) (x4 : Int) (h : Hp), R32 x1 → R32 x2 → R32 x3 → R32 x4 → fX12_differ_40 k27 n x0 x1 x2 x3 x4 h = some res → J L xs l RX12 cX12_differ 5 false 3 (QI res) 0 0 40 [(0, vr x0), (1, vi x1), (2, vi x2), (3, vi x3), (4, vi x4)] [] h := by
  intro n
  induction n with
  | zero => intro x0 x1 x2 x3 x4 h rx1 rx2 rx3 rx4 H; cases H
  | succ n ih =>
    intro x0 x1 x2 x3 x4 h rx1 rx2 rx3 rx4 H
    rw [fX12_differ_40] at H
    refine j_iload (pc' := 42) dX12_differ_40 rfl 4 rfl ?_
    refine j_aload_n (i := 0) (pc' := 43) dX12_differ_42 rfl rfl 0 rfl ?_
    obtain ⟨u1, e1, H⟩ := bs H
    obtain ⟨p2, e2, H⟩ := bs H
    refine j_cVi (y := yX12_n) (dY := 1) (vs := []) (st := [vi x4]) (q := x0) (pc' := 46) dX12_differ_43 rfl ymX12_n yvX12_n ml_X12_90 (by decide) rfl (Nat.le_of_ble_eq_true rfl) (Nat.le_of_ble_eq_true rfl) e1 (tX12_n x0 h e2) (fun r2 z2 => ?_)
    refine j_icmp_ge (tgt := 113) (pc' := 49) dX12_differ_46 (by decide) rfl rx4 r2 (fun c3 => ?_) (fun c3 => ?_)
    · rw [if_pos c3] at H
      refine j_sub (lv' := [(0, vr x0), (1, vi x1), (2, vi x2), (3, vi x3)]) [0, 1, 2, 3] rfl ?_
      exact tX12_differ_113 _ hk27 x0 x1 x2 x3 p2.2 rx1 rx2 rx3 H
    · rw [if_neg c3] at H
      refine j_aload_n (i := 0) (pc' := 50) dX12_differ_49 rfl rfl 0 rfl ?_
      obtain ⟨v4, e4, H⟩ := bs H
      refine j_getR (pc' := 53) dX12_differ_50 rfl fl_X12_26 e4 (fun r4 => ?_)
      refine j_iload_n (i := 3) (pc' := 54) dX12_differ_53 rfl rfl 3 rfl ?_
      obtain ⟨v5, e5, H⟩ := bs H
      refine j_iald (pc' := 55) dX12_differ_54 rfl e5 (fun r5 => ?_)
      refine j_aload_n (i := 0) (pc' := 56) dX12_differ_55 rfl rfl 0 rfl ?_
      obtain ⟨v6, e6, H⟩ := bs H
      refine j_getR (pc' := 59) dX12_differ_56 rfl fl_X12_26 e6 (fun r6 => ?_)
      refine j_iload (pc' := 61) dX12_differ_59 rfl 4 rfl ?_
      obtain ⟨v7, e7, H⟩ := bs H
      refine j_iald (pc' := 62) dX12_differ_61 rfl e7 (fun r7 => ?_)
      refine j_icmp_ne (tgt := 69) (pc' := 65) dX12_differ_62 (by decide) rfl r5 r7 (fun c8 => ?_) (fun c8 => ?_)
      · rw [if_neg c8] at H
        refine j_iconst (pc' := 70) dX12_differ_69 rfl ?_
        exact tX12_differ_70 _ _ hk27 ih x0 x1 x2 x3 x4 0 p2.2 rx1 rx2 rx3 rx4 ⟨by decide, by decide⟩ H
      · rw [if_pos c8] at H
        refine j_iconst (pc' := 66) dX12_differ_65 rfl ?_
        refine j_goto (tgt := 70) dX12_differ_66 (by decide) ?_
        exact tX12_differ_70 _ _ hk27 ih x0 x1 x2 x3 x4 1 p2.2 rx1 rx2 rx3 rx4 ⟨by decide, by decide⟩ H
noncomputable def fX12_differ_27 : Nat → Nat → Int → Int → Int → Hp → Option (Int × Hp)
  | 0, _, _, _, _, _ => none
  | n + 1, x0, x1, x2, x3, h => (cob h 11 x0).bind fun _ => (fX12_n x0 h).bind fun p2 => if p2.1 ≤ x3 then (fX12_differ_119 x2 p2.2) else ((c32 (x3 + 1)).bind fun _ => fX12_differ_40 (fX12_differ_27 n) FU x0 x1 x2 x3 (x3 + 1) p2.2)
theorem tX12_differ_27 {L : Nat} {xs : Nat → Int32} {l : Launch} {res : Int × Hp} : ∀ (n : Nat) (x0 : Nat) (x1 : Int) (x2 : Int) (x3 : Int) (h : Hp), R32 x1 → R32 x2 → R32 x3 → fX12_differ_27 n x0 x1 x2 x3 h = some res → J L xs l RX12 cX12_differ 5 false 3 (QI res) 0 0 27 [(0, vr x0), (1, vi x1), (2, vi x2), (3, vi x3)] [] h := by
  intro n
  induction n with
  | zero => intro x0 x1 x2 x3 h rx1 rx2 rx3 H; cases H
  | succ n ih =>
    intro x0 x1 x2 x3 h rx1 rx2 rx3 H
    rw [fX12_differ_27] at H
    refine j_iload_n (i := 3) (pc' := 28) dX12_differ_27 rfl rfl 3 rfl ?_
    refine j_aload_n (i := 0) (pc' := 29) dX12_differ_28 rfl rfl 0 rfl ?_
    obtain ⟨u1, e1, H⟩ := bs H
    obtain ⟨p2, e2, H⟩ := bs H
    refine j_cVi (y := yX12_n) (dY := 1) (vs := []) (st := [vi x3]) (q := x0) (pc' := 32) dX12_differ_29 rfl ymX12_n yvX12_n ml_X12_90 (by decide) rfl (Nat.le_of_ble_eq_true rfl) (Nat.le_of_ble_eq_true rfl) e1 (tX12_n x0 h e2) (fun r2 z2 => ?_)
    refine j_icmp_ge (tgt := 119) (pc' := 35) dX12_differ_32 (by decide) rfl rx3 r2 (fun c3 => ?_) (fun c3 => ?_)
    · rw [if_pos c3] at H
      refine j_sub (lv' := [(2, vi x2)]) [2] rfl ?_
      exact tX12_differ_119   x2 p2.2 rx2 H
    · rw [if_neg c3] at H
      refine j_iload_n (i := 3) (pc' := 36) dX12_differ_35 rfl rfl 3 rfl ?_
      refine j_iconst (pc' := 37) dX12_differ_36 rfl ?_
      refine j_iadd (pc' := 38) dX12_differ_37 rfl ?_
      obtain ⟨u4, e4, H⟩ := bs H
      have r4 := c32_R e4
      refine j_istore (lv' := [(0, vr x0), (1, vi x1), (2, vi x2), (3, vi x3), (4, vi (x3 + 1))]) (pc' := 40) dX12_differ_38 rfl (by decide) [1, 2, 3, 4, 0] rfl ?_
      exact tX12_differ_40 _ ih FU x0 x1 x2 x3 (x3 + 1) p2.2 rx1 rx2 rx3 r4 H
noncomputable def fX12_differ (a0 : Nat) (a1 : Int) (h : Hp) : Option (Int × Hp) :=
  (putV h 11 a0 19 (vi 0)).bind fun h1 => (cob h1 11 a0).bind fun _ => (fX12_keepWhy a0 a1 h1).bind fun p3 => if p3.1 ≤ 0 then (fX12_differ_27 FU a0 a1 0 0 p3.2) else ((cob p3.2 11 a0).bind fun _ => (fX12_keepWhy a0 a1 p3.2).bind fun p6 => (cob p6.2 11 a0).bind fun _ => (fX12_no a0 p6.1 p6.2).bind fun p8 => some (p8.1, p8.2))
theorem tX12_differ {L : Nat} {xs : Nat → Int32} {l : Launch} {res : Int × Hp} (a0 : Nat) (a1 : Int) (h : Hp) (ra1 : R32 a1) (H : fX12_differ a0 a1 h = some res) : J L xs l RX12 cX12_differ 5 false 3 (QI res) 0 0 0 (alv 0 [vr a0, vi a1]) [] h := by
  unfold fX12_differ at H
  show J L xs l RX12 cX12_differ 5 false 3 (QI res) 0 0 0 [(0, vr a0), (1, vi a1)] [] h
  refine j_aload_n (i := 0) (pc' := 1) dX12_differ_0 rfl rfl 0 rfl ?_
  refine j_iconst (pc' := 2) dX12_differ_1 rfl ?_
  obtain ⟨h1, e1, H⟩ := bs H
  refine j_putV (pc' := 5) dX12_differ_2 rfl fp_X12_77 tI ⟨by decide, by decide⟩ e1 ?_
  refine j_aload_n (i := 0) (pc' := 6) dX12_differ_5 rfl rfl 0 rfl ?_
  refine j_iload_n (i := 1) (pc' := 7) dX12_differ_6 rfl rfl 1 rfl ?_
  obtain ⟨u2, e2, H⟩ := bs H
  obtain ⟨p3, e3, H⟩ := bs H
  refine j_cVi (y := yX12_keepWhy) (dY := 2) (vs := [vi a1]) (st := []) (q := a0) (pc' := 10) dX12_differ_7 rfl ymX12_keepWhy yvX12_keepWhy ml_X12_218 (by decide) rfl (Nat.le_of_ble_eq_true rfl) (Nat.le_of_ble_eq_true rfl) e2 (tX12_keepWhy a0 a1 h1 ra1 e3) (fun r3 z3 => ?_)
  refine j_if_le (tgt := 23) (pc' := 13) dX12_differ_10 (by decide) rfl r3 (fun c4 => ?_) (fun c4 => ?_)
  · rw [if_pos c4] at H
    refine j_iconst (pc' := 24) dX12_differ_23 rfl ?_
    refine j_istore_n (i := 2) (lv' := [(0, vr a0), (1, vi a1), (2, vi 0)]) (pc' := 25) dX12_differ_24 rfl rfl (by decide) [1, 2, 0] rfl ?_
    refine j_iconst (pc' := 26) dX12_differ_25 rfl ?_
    refine j_istore_n (i := 3) (lv' := [(0, vr a0), (1, vi a1), (2, vi 0), (3, vi 0)]) (pc' := 27) dX12_differ_26 rfl rfl (by decide) [1, 2, 3, 0] rfl ?_
    exact tX12_differ_27   FU a0 a1 0 0 p3.2 ra1 ⟨by decide, by decide⟩ ⟨by decide, by decide⟩ H
  · rw [if_neg c4] at H
    refine j_aload_n (i := 0) (pc' := 14) dX12_differ_13 rfl rfl 0 rfl ?_
    refine j_aload_n (i := 0) (pc' := 15) dX12_differ_14 rfl rfl 0 rfl ?_
    refine j_iload_n (i := 1) (pc' := 16) dX12_differ_15 rfl rfl 1 rfl ?_
    obtain ⟨u5, e5, H⟩ := bs H
    obtain ⟨p6, e6, H⟩ := bs H
    refine j_cVi (y := yX12_keepWhy) (dY := 2) (vs := [vi a1]) (st := [vr a0]) (q := a0) (pc' := 19) dX12_differ_16 rfl ymX12_keepWhy yvX12_keepWhy ml_X12_218 (by decide) rfl (Nat.le_of_ble_eq_true rfl) (Nat.le_of_ble_eq_true rfl) e5 (tX12_keepWhy a0 a1 p3.2 ra1 e6) (fun r6 z6 => ?_)
    obtain ⟨u7, e7, H⟩ := bs H
    obtain ⟨p8, e8, H⟩ := bs H
    refine j_cVi (y := yX12_no) (dY := 1) (vs := [vi p6.1]) (st := []) (q := a0) (pc' := 22) dX12_differ_19 rfl ymX12_no yvX12_no ml_X12_98 (by decide) rfl (Nat.le_of_ble_eq_true rfl) (Nat.le_of_ble_eq_true rfl) e7 (tX12_no a0 p6.1 p6.2 r6 e8) (fun r8 z8 => ?_)
    obtain rfl := Option.some.inj H
    exact j_iret dX12_differ_22 r8 ⟨rfl, rfl⟩
-- X12_both
noncomputable def fX12_both_70 (x0 : Nat) (h : Hp) : Option (Int × Hp) :=
  (getR h 11 x0 20).bind fun v1 => (cob h 11 x0).bind fun _ => (fX12_number x0 v1 h).bind fun p3 => (getR p3.2 11 x0 20).bind fun v4 => (cob p3.2 11 x0).bind fun _ => (fX12_become x0 v4 p3.2).bind fun h6 => some (p3.1, h6)
theorem tX12_both_70 {L : Nat} {xs : Nat → Int32} {l : Launch} {res : Int × Hp} (x0 : Nat) (h : Hp)  (H : fX12_both_70 x0 h = some res) : J L xs l RX12 cX12_both 3 false 3 (QI res) 0 0 70 [(0, vr x0)] [] h := by
  unfold fX12_both_70 at H
  refine j_aload_n (i := 0) (pc' := 71) dX12_both_70 rfl rfl 0 rfl ?_
  refine j_aload_n (i := 0) (pc' := 72) dX12_both_71 rfl rfl 0 rfl ?_
  obtain ⟨v1, e1, H⟩ := bs H
  refine j_getR (pc' := 75) dX12_both_72 rfl fl_X12_58 e1 (fun r1 => ?_)
  obtain ⟨u2, e2, H⟩ := bs H
  obtain ⟨p3, e3, H⟩ := bs H
  refine j_cVi (y := yX12_number) (dY := 2) (vs := [vr v1]) (st := []) (q := x0) (pc' := 78) dX12_both_75 rfl ymX12_number yvX12_number ml_X12_147 (by decide) rfl (Nat.le_of_ble_eq_true rfl) (Nat.le_of_ble_eq_true rfl) e2 (tX12_number x0 v1 h e3) (fun r3 z3 => ?_)
  refine j_istore_n (i := 2) (lv' := [(0, vr x0), (2, vi p3.1)]) (pc' := 79) dX12_both_78 rfl rfl (by decide) [1, 0] rfl ?_
  refine j_aload_n (i := 0) (pc' := 80) dX12_both_79 rfl rfl 0 rfl ?_
  refine j_aload_n (i := 0) (pc' := 81) dX12_both_80 rfl rfl 0 rfl ?_
  obtain ⟨v4, e4, H⟩ := bs H
  refine j_getR (pc' := 84) dX12_both_81 rfl fl_X12_58 e4 (fun r4 => ?_)
  obtain ⟨u5, e5, H⟩ := bs H
  obtain ⟨h6, e6, H⟩ := bs H
  refine j_cVv (y := yX12_become) (dY := 2) (vs := [vr v4]) (st := []) (q := x0) (pc' := 87) dX12_both_84 rfl ymX12_become yvX12_become ml_X12_150 (by decide) rfl (Nat.le_of_ble_eq_true rfl) (Nat.le_of_ble_eq_true rfl) e5 (tX12_become x0 v4 p3.2 e6) (fun z6 => ?_)
  refine j_iload_n (i := 2) (pc' := 88) dX12_both_87 rfl rfl 1 rfl ?_
  obtain rfl := Option.some.inj H
  exact j_iret dX12_both_88 r3 ⟨rfl, rfl⟩
noncomputable def fX12_both_29 : Nat → Nat → Int → Int → Hp → Option (Int × Hp)
  | 0, _, _, _, _ => none
  | n + 1, x0, x1, x2, h => (cob h 11 x0).bind fun _ => (fX12_n x0 h).bind fun p2 => if p2.1 ≤ x2 then (fX12_both_70 x0 p2.2) else ((getR p2.2 11 x0 20).bind fun v4 => (getR p2.2 11 x0 5).bind fun v5 => (ald p2.2 0 v5 x2).bind fun v6 => (getR p2.2 11 x0 16).bind fun v7 => (ald p2.2 0 v7 ((12 * x1) + x2)).bind fun v8 => (c32 ((12 * v6) + v8)).bind fun _ => (ast p2.2 0 v4 x2 ((12 * v6) + v8)).bind fun h10 => (c32 (x2 + 1)).bind fun _ => fX12_both_29 n x0 x1 (x2 + 1) h10)
theorem tX12_both_29 {L : Nat} {xs : Nat → Int32} {l : Launch} {res : Int × Hp} : ∀ (n : Nat) (x0 : Nat) (x1 : Int) (x2 : Int) (h : Hp), R32 x1 → R32 x2 → fX12_both_29 n x0 x1 x2 h = some res → J L xs l RX12 cX12_both 3 false 3 (QI res) 0 0 29 [(0, vr x0), (1, vi x1), (2, vi x2)] [] h := by
  intro n
  induction n with
  | zero => intro x0 x1 x2 h rx1 rx2 H; cases H
  | succ n ih =>
    intro x0 x1 x2 h rx1 rx2 H
    rw [fX12_both_29] at H
    refine j_iload_n (i := 2) (pc' := 30) dX12_both_29 rfl rfl 2 rfl ?_
    refine j_aload_n (i := 0) (pc' := 31) dX12_both_30 rfl rfl 0 rfl ?_
    obtain ⟨u1, e1, H⟩ := bs H
    obtain ⟨p2, e2, H⟩ := bs H
    refine j_cVi (y := yX12_n) (dY := 1) (vs := []) (st := [vi x2]) (q := x0) (pc' := 34) dX12_both_31 rfl ymX12_n yvX12_n ml_X12_90 (by decide) rfl (Nat.le_of_ble_eq_true rfl) (Nat.le_of_ble_eq_true rfl) e1 (tX12_n x0 h e2) (fun r2 z2 => ?_)
    refine j_icmp_ge (tgt := 70) (pc' := 37) dX12_both_34 (by decide) rfl rx2 r2 (fun c3 => ?_) (fun c3 => ?_)
    · rw [if_pos c3] at H
      refine j_sub (lv' := [(0, vr x0)]) [0] rfl ?_
      exact tX12_both_70   x0 p2.2  H
    · rw [if_neg c3] at H
      refine j_aload_n (i := 0) (pc' := 38) dX12_both_37 rfl rfl 0 rfl ?_
      obtain ⟨v4, e4, H⟩ := bs H
      refine j_getR (pc' := 41) dX12_both_38 rfl fl_X12_58 e4 (fun r4 => ?_)
      refine j_iload_n (i := 2) (pc' := 42) dX12_both_41 rfl rfl 2 rfl ?_
      refine j_bipush (pc' := 44) dX12_both_42 rfl (by decide +kernel) ?_
      refine j_aload_n (i := 0) (pc' := 45) dX12_both_44 rfl rfl 0 rfl ?_
      obtain ⟨v5, e5, H⟩ := bs H
      refine j_getR (pc' := 48) dX12_both_45 rfl fl_X12_26 e5 (fun r5 => ?_)
      refine j_iload_n (i := 2) (pc' := 49) dX12_both_48 rfl rfl 2 rfl ?_
      obtain ⟨v6, e6, H⟩ := bs H
      refine j_iald (pc' := 50) dX12_both_49 rfl e6 (fun r6 => ?_)
      refine j_imul (pc' := 51) dX12_both_50 rfl ?_
      refine j_aload_n (i := 0) (pc' := 52) dX12_both_51 rfl rfl 0 rfl ?_
      obtain ⟨v7, e7, H⟩ := bs H
      refine j_getR (pc' := 55) dX12_both_52 rfl fl_X12_52 e7 (fun r7 => ?_)
      refine j_bipush (pc' := 57) dX12_both_55 rfl (by decide +kernel) ?_
      refine j_iload_n (i := 1) (pc' := 58) dX12_both_57 rfl rfl 1 rfl ?_
      refine j_imul (pc' := 59) dX12_both_58 rfl ?_
      refine j_iload_n (i := 2) (pc' := 60) dX12_both_59 rfl rfl 2 rfl ?_
      refine j_iadd (pc' := 61) dX12_both_60 rfl ?_
      obtain ⟨v8, e8, H⟩ := bs H
      refine j_iald (pc' := 62) dX12_both_61 rfl e8 (fun r8 => ?_)
      refine j_iadd (pc' := 63) dX12_both_62 rfl ?_
      obtain ⟨u9, e9, H⟩ := bs H
      have r9 := c32_R e9
      obtain ⟨h10, e10, H⟩ := bs H
      refine j_iast (pc' := 64) dX12_both_63 rfl r9 e10 ?_
      obtain ⟨u11, e11, H⟩ := bs H
      have r11 := c32_R e11
      refine j_iinc (k0 := 2) (lv' := [(0, vr x0), (1, vi x1), (2, vi (x2 + 1))]) (pc' := 67) dX12_both_64 rfl rfl (by decide) [1, 2, 0] rfl ?_
      refine j_goto (tgt := 29) dX12_both_67 (by decide) ?_
      exact ih x0 x1 (x2 + 1) h10 rx1 r11 H
noncomputable def fX12_both (a0 : Nat) (a1 : Int) (h : Hp) : Option (Int × Hp) :=
  (putV h 11 a0 19 (vi 0)).bind fun h1 => (cob h1 11 a0).bind fun _ => (fX12_keepWhy a0 a1 h1).bind fun p3 => if p3.1 ≤ 0 then ((cob p3.2 11 a0).bind fun _ => (fX12_change a0 p3.2).bind fun h6 => fX12_both_29 FU a0 a1 0 h6) else ((cob p3.2 11 a0).bind fun _ => (fX12_keepWhy a0 a1 p3.2).bind fun p8 => (cob p8.2 11 a0).bind fun _ => (fX12_no a0 p8.1 p8.2).bind fun p10 => some (p10.1, p10.2))
theorem tX12_both {L : Nat} {xs : Nat → Int32} {l : Launch} {res : Int × Hp} (a0 : Nat) (a1 : Int) (h : Hp) (ra1 : R32 a1) (H : fX12_both a0 a1 h = some res) : J L xs l RX12 cX12_both 3 false 3 (QI res) 0 0 0 (alv 0 [vr a0, vi a1]) [] h := by
  unfold fX12_both at H
  show J L xs l RX12 cX12_both 3 false 3 (QI res) 0 0 0 [(0, vr a0), (1, vi a1)] [] h
  refine j_aload_n (i := 0) (pc' := 1) dX12_both_0 rfl rfl 0 rfl ?_
  refine j_iconst (pc' := 2) dX12_both_1 rfl ?_
  obtain ⟨h1, e1, H⟩ := bs H
  refine j_putV (pc' := 5) dX12_both_2 rfl fp_X12_77 tI ⟨by decide, by decide⟩ e1 ?_
  refine j_aload_n (i := 0) (pc' := 6) dX12_both_5 rfl rfl 0 rfl ?_
  refine j_iload_n (i := 1) (pc' := 7) dX12_both_6 rfl rfl 1 rfl ?_
  obtain ⟨u2, e2, H⟩ := bs H
  obtain ⟨p3, e3, H⟩ := bs H
  refine j_cVi (y := yX12_keepWhy) (dY := 2) (vs := [vi a1]) (st := []) (q := a0) (pc' := 10) dX12_both_7 rfl ymX12_keepWhy yvX12_keepWhy ml_X12_218 (by decide) rfl (Nat.le_of_ble_eq_true rfl) (Nat.le_of_ble_eq_true rfl) e2 (tX12_keepWhy a0 a1 h1 ra1 e3) (fun r3 z3 => ?_)
  refine j_if_le (tgt := 23) (pc' := 13) dX12_both_10 (by decide) rfl r3 (fun c4 => ?_) (fun c4 => ?_)
  · rw [if_pos c4] at H
    refine j_aload_n (i := 0) (pc' := 24) dX12_both_23 rfl rfl 0 rfl ?_
    obtain ⟨u5, e5, H⟩ := bs H
    obtain ⟨h6, e6, H⟩ := bs H
    refine j_cVv (y := yX12_change) (dY := 2) (vs := []) (st := []) (q := a0) (pc' := 27) dX12_both_24 rfl ymX12_change yvX12_change ml_X12_102 (by decide) rfl (Nat.le_of_ble_eq_true rfl) (Nat.le_of_ble_eq_true rfl) e5 (tX12_change a0 p3.2 e6) (fun z6 => ?_)
    refine j_iconst (pc' := 28) dX12_both_27 rfl ?_
    refine j_istore_n (i := 2) (lv' := [(0, vr a0), (1, vi a1), (2, vi 0)]) (pc' := 29) dX12_both_28 rfl rfl (by decide) [1, 2, 0] rfl ?_
    exact tX12_both_29   FU a0 a1 0 h6 ra1 ⟨by decide, by decide⟩ H
  · rw [if_neg c4] at H
    refine j_aload_n (i := 0) (pc' := 14) dX12_both_13 rfl rfl 0 rfl ?_
    refine j_aload_n (i := 0) (pc' := 15) dX12_both_14 rfl rfl 0 rfl ?_
    refine j_iload_n (i := 1) (pc' := 16) dX12_both_15 rfl rfl 1 rfl ?_
    obtain ⟨u7, e7, H⟩ := bs H
    obtain ⟨p8, e8, H⟩ := bs H
    refine j_cVi (y := yX12_keepWhy) (dY := 2) (vs := [vi a1]) (st := [vr a0]) (q := a0) (pc' := 19) dX12_both_16 rfl ymX12_keepWhy yvX12_keepWhy ml_X12_218 (by decide) rfl (Nat.le_of_ble_eq_true rfl) (Nat.le_of_ble_eq_true rfl) e7 (tX12_keepWhy a0 a1 p3.2 ra1 e8) (fun r8 z8 => ?_)
    obtain ⟨u9, e9, H⟩ := bs H
    obtain ⟨p10, e10, H⟩ := bs H
    refine j_cVi (y := yX12_no) (dY := 1) (vs := [vi p8.1]) (st := []) (q := a0) (pc' := 22) dX12_both_19 rfl ymX12_no yvX12_no ml_X12_98 (by decide) rfl (Nat.le_of_ble_eq_true rfl) (Nat.le_of_ble_eq_true rfl) e9 (tX12_no a0 p8.1 p8.2 r8 e10) (fun r10 z10 => ?_)
    obtain rfl := Option.some.inj H
    exact j_iret dX12_both_22 r10 ⟨rfl, rfl⟩
-- X12_tell
noncomputable def fX12_tell_24 (x0 : Nat) (h : Hp) : Option (Int × Hp) :=
  (cob h 11 x0).bind fun _ => (fX12_no x0 1 h).bind fun p2 => some (p2.1, p2.2)
theorem tX12_tell_24 {L : Nat} {xs : Nat → Int32} {l : Launch} {res : Int × Hp} (x0 : Nat) (h : Hp)  (H : fX12_tell_24 x0 h = some res) : J L xs l RX12 cX12_tell 2 false 2 (QI res) 0 0 24 [(0, vr x0)] [] h := by
  unfold fX12_tell_24 at H
  refine j_aload_n (i := 0) (pc' := 25) dX12_tell_24 rfl rfl 0 rfl ?_
  refine j_iconst (pc' := 26) dX12_tell_25 rfl ?_
  obtain ⟨u1, e1, H⟩ := bs H
  obtain ⟨p2, e2, H⟩ := bs H
  refine j_cVi (y := yX12_no) (dY := 1) (vs := [vi 1]) (st := []) (q := x0) (pc' := 29) dX12_tell_26 rfl ymX12_no yvX12_no ml_X12_98 (by decide) rfl (Nat.le_of_ble_eq_true rfl) (Nat.le_of_ble_eq_true rfl) e1 (tX12_no x0 1 h ⟨by decide, by decide⟩ e2) (fun r2 z2 => ?_)
  obtain rfl := Option.some.inj H
  exact j_iret dX12_tell_29 r2 ⟨rfl, rfl⟩
noncomputable def fX12_tell (a0 : Nat) (a1 : Int) (h : Hp) : Option (Int × Hp) :=
  (putV h 11 a0 19 (vi 0)).bind fun h1 => if a1 < 0 then (fX12_tell_24 a0 h1) else (if 11 < a1 then (fX12_tell_24 a0 h1) else ((getI h1 11 a0 18).bind fun v4 => if v4 = 12 then (fX12_tell_24 a0 h1) else ((getR h1 11 a0 17).bind fun v6 => (getI h1 11 a0 18).bind fun v7 => (ast h1 0 v6 v7 a1).bind fun h8 => (getI h8 11 a0 18).bind fun v9 => (c32 (v9 + 1)).bind fun _ => (putV h8 11 a0 18 (vi (v9 + 1))).bind fun h11 => (getI h11 11 a0 18).bind fun v12 => some (v12, h11))))
theorem tX12_tell {L : Nat} {xs : Nat → Int32} {l : Launch} {res : Int × Hp} (a0 : Nat) (a1 : Int) (h : Hp) (ra1 : R32 a1) (H : fX12_tell a0 a1 h = some res) : J L xs l RX12 cX12_tell 2 false 2 (QI res) 0 0 0 (alv 0 [vr a0, vi a1]) [] h := by
  unfold fX12_tell at H
  show J L xs l RX12 cX12_tell 2 false 2 (QI res) 0 0 0 [(0, vr a0), (1, vi a1)] [] h
  refine j_aload_n (i := 0) (pc' := 1) dX12_tell_0 rfl rfl 0 rfl ?_
  refine j_iconst (pc' := 2) dX12_tell_1 rfl ?_
  obtain ⟨h1, e1, H⟩ := bs H
  refine j_putV (pc' := 5) dX12_tell_2 rfl fp_X12_77 tI ⟨by decide, by decide⟩ e1 ?_
  refine j_iload_n (i := 1) (pc' := 6) dX12_tell_5 rfl rfl 1 rfl ?_
  refine j_if_lt (tgt := 24) (pc' := 9) dX12_tell_6 (by decide) rfl ra1 (fun c2 => ?_) (fun c2 => ?_)
  · rw [if_pos c2] at H
    refine j_sub (lv' := [(0, vr a0)]) [0] rfl ?_
    exact tX12_tell_24   a0 h1  H
  · rw [if_neg c2] at H
    refine j_iload_n (i := 1) (pc' := 10) dX12_tell_9 rfl rfl 1 rfl ?_
    refine j_bipush (pc' := 12) dX12_tell_10 rfl (by decide +kernel) ?_
    refine j_icmp_gt (tgt := 24) (pc' := 15) dX12_tell_12 (by decide) rfl ra1 ⟨by decide, by decide⟩ (fun c3 => ?_) (fun c3 => ?_)
    · rw [if_pos c3] at H
      refine j_sub (lv' := [(0, vr a0)]) [0] rfl ?_
      exact tX12_tell_24   a0 h1  H
    · rw [if_neg c3] at H
      refine j_aload_n (i := 0) (pc' := 16) dX12_tell_15 rfl rfl 0 rfl ?_
      obtain ⟨v4, e4, H⟩ := bs H
      refine j_getI (pc' := 19) dX12_tell_16 rfl fl_X12_154 e4 (fun r4 => ?_)
      refine j_bipush (pc' := 21) dX12_tell_19 rfl (by decide +kernel) ?_
      refine j_icmp_ne (tgt := 30) (pc' := 24) dX12_tell_21 (by decide) rfl r4 ⟨by decide, by decide⟩ (fun c5 => ?_) (fun c5 => ?_)
      · rw [if_neg c5] at H
        refine j_aload_n (i := 0) (pc' := 31) dX12_tell_30 rfl rfl 0 rfl ?_
        obtain ⟨v6, e6, H⟩ := bs H
        refine j_getR (pc' := 34) dX12_tell_31 rfl fl_X12_55 e6 (fun r6 => ?_)
        refine j_aload_n (i := 0) (pc' := 35) dX12_tell_34 rfl rfl 0 rfl ?_
        obtain ⟨v7, e7, H⟩ := bs H
        refine j_getI (pc' := 38) dX12_tell_35 rfl fl_X12_154 e7 (fun r7 => ?_)
        refine j_iload_n (i := 1) (pc' := 39) dX12_tell_38 rfl rfl 1 rfl ?_
        obtain ⟨h8, e8, H⟩ := bs H
        refine j_iast (pc' := 40) dX12_tell_39 rfl ra1 e8 ?_
        refine j_aload_n (i := 0) (pc' := 41) dX12_tell_40 rfl rfl 0 rfl ?_
        refine j_dup (pc' := 42) dX12_tell_41 rfl rfl ?_
        obtain ⟨v9, e9, H⟩ := bs H
        refine j_getI (pc' := 45) dX12_tell_42 rfl fl_X12_154 e9 (fun r9 => ?_)
        refine j_iconst (pc' := 46) dX12_tell_45 rfl ?_
        refine j_iadd (pc' := 47) dX12_tell_46 rfl ?_
        obtain ⟨u10, e10, H⟩ := bs H
        have r10 := c32_R e10
        obtain ⟨h11, e11, H⟩ := bs H
        refine j_putV (pc' := 50) dX12_tell_47 rfl fp_X12_154 tI r10 e11 ?_
        refine j_aload_n (i := 0) (pc' := 51) dX12_tell_50 rfl rfl 0 rfl ?_
        obtain ⟨v12, e12, H⟩ := bs H
        refine j_getI (pc' := 54) dX12_tell_51 rfl fl_X12_154 e12 (fun r12 => ?_)
        obtain rfl := Option.some.inj H
        exact j_iret dX12_tell_54 r12 ⟨rfl, rfl⟩
      · rw [if_pos c5] at H
        refine j_sub (lv' := [(0, vr a0)]) [0] rfl ?_
        exact tX12_tell_24   a0 h1  H
-- X12_takeList
noncomputable def fX12_takeList_41 (x0 : Nat) (h : Hp) : Option (Int × Hp) :=
  (getR h 11 x0 20).bind fun v1 => (cob h 11 x0).bind fun _ => (fX12_number x0 v1 h).bind fun p3 => some (1, p3.2)
theorem tX12_takeList_41 {L : Nat} {xs : Nat → Int32} {l : Launch} {res : Int × Hp} (x0 : Nat) (h : Hp)  (H : fX12_takeList_41 x0 h = some res) : J L xs l RX12 cX12_takeList 2 false 3 (QB res) 0 0 41 [(0, vr x0)] [] h := by
  unfold fX12_takeList_41 at H
  refine j_aload_n (i := 0) (pc' := 42) dX12_takeList_41 rfl rfl 0 rfl ?_
  refine j_aload_n (i := 0) (pc' := 43) dX12_takeList_42 rfl rfl 0 rfl ?_
  obtain ⟨v1, e1, H⟩ := bs H
  refine j_getR (pc' := 46) dX12_takeList_43 rfl fl_X12_58 e1 (fun r1 => ?_)
  obtain ⟨u2, e2, H⟩ := bs H
  obtain ⟨p3, e3, H⟩ := bs H
  refine j_cVi (y := yX12_number) (dY := 2) (vs := [vr v1]) (st := []) (q := x0) (pc' := 49) dX12_takeList_46 rfl ymX12_number yvX12_number ml_X12_147 (by decide) rfl (Nat.le_of_ble_eq_true rfl) (Nat.le_of_ble_eq_true rfl) e2 (tX12_number x0 v1 h e3) (fun r3 z3 => ?_)
  refine j_pop (pc' := 50) dX12_takeList_49 rfl rfl ?_
  refine j_iconst (pc' := 51) dX12_takeList_50 rfl ?_
  obtain rfl := Option.some.inj H
  exact j_iret dX12_takeList_51 ⟨by decide, by decide⟩ ⟨rfl, rfl, Or.inr rfl⟩
noncomputable def fX12_takeList_15 : Nat → Nat → Int → Hp → Option (Int × Hp)
  | 0, _, _, _ => none
  | n + 1, x0, x1, h => (cob h 11 x0).bind fun _ => (fX12_n x0 h).bind fun p2 => if p2.1 ≤ x1 then (fX12_takeList_41 x0 p2.2) else ((getR p2.2 11 x0 20).bind fun v4 => (getR p2.2 11 x0 17).bind fun v5 => (ald p2.2 0 v5 x1).bind fun v6 => (ast p2.2 0 v4 x1 v6).bind fun h7 => (c32 (x1 + 1)).bind fun _ => fX12_takeList_15 n x0 (x1 + 1) h7)
theorem tX12_takeList_15 {L : Nat} {xs : Nat → Int32} {l : Launch} {res : Int × Hp} : ∀ (n : Nat) (x0 : Nat) (x1 : Int) (h : Hp), R32 x1 → fX12_takeList_15 n x0 x1 h = some res → J L xs l RX12 cX12_takeList 2 false 3 (QB res) 0 0 15 [(0, vr x0), (1, vi x1)] [] h := by
  intro n
  induction n with
  | zero => intro x0 x1 h rx1 H; cases H
  | succ n ih =>
    intro x0 x1 h rx1 H
    rw [fX12_takeList_15] at H
    refine j_iload_n (i := 1) (pc' := 16) dX12_takeList_15 rfl rfl 1 rfl ?_
    refine j_aload_n (i := 0) (pc' := 17) dX12_takeList_16 rfl rfl 0 rfl ?_
    obtain ⟨u1, e1, H⟩ := bs H
    obtain ⟨p2, e2, H⟩ := bs H
    refine j_cVi (y := yX12_n) (dY := 1) (vs := []) (st := [vi x1]) (q := x0) (pc' := 20) dX12_takeList_17 rfl ymX12_n yvX12_n ml_X12_90 (by decide) rfl (Nat.le_of_ble_eq_true rfl) (Nat.le_of_ble_eq_true rfl) e1 (tX12_n x0 h e2) (fun r2 z2 => ?_)
    refine j_icmp_ge (tgt := 41) (pc' := 23) dX12_takeList_20 (by decide) rfl rx1 r2 (fun c3 => ?_) (fun c3 => ?_)
    · rw [if_pos c3] at H
      refine j_sub (lv' := [(0, vr x0)]) [0] rfl ?_
      exact tX12_takeList_41   x0 p2.2  H
    · rw [if_neg c3] at H
      refine j_aload_n (i := 0) (pc' := 24) dX12_takeList_23 rfl rfl 0 rfl ?_
      obtain ⟨v4, e4, H⟩ := bs H
      refine j_getR (pc' := 27) dX12_takeList_24 rfl fl_X12_58 e4 (fun r4 => ?_)
      refine j_iload_n (i := 1) (pc' := 28) dX12_takeList_27 rfl rfl 1 rfl ?_
      refine j_aload_n (i := 0) (pc' := 29) dX12_takeList_28 rfl rfl 0 rfl ?_
      obtain ⟨v5, e5, H⟩ := bs H
      refine j_getR (pc' := 32) dX12_takeList_29 rfl fl_X12_55 e5 (fun r5 => ?_)
      refine j_iload_n (i := 1) (pc' := 33) dX12_takeList_32 rfl rfl 1 rfl ?_
      obtain ⟨v6, e6, H⟩ := bs H
      refine j_iald (pc' := 34) dX12_takeList_33 rfl e6 (fun r6 => ?_)
      obtain ⟨h7, e7, H⟩ := bs H
      refine j_iast (pc' := 35) dX12_takeList_34 rfl r6 e7 ?_
      obtain ⟨u8, e8, H⟩ := bs H
      have r8 := c32_R e8
      refine j_iinc (k0 := 1) (lv' := [(0, vr x0), (1, vi (x1 + 1))]) (pc' := 38) dX12_takeList_35 rfl rfl (by decide) [1, 0] rfl ?_
      refine j_goto (tgt := 15) dX12_takeList_38 (by decide) ?_
      exact ih x0 (x1 + 1) h7 r8 H
noncomputable def fX12_takeList (a0 : Nat) (h : Hp) : Option (Int × Hp) :=
  (getI h 11 a0 18).bind fun v1 => (cob h 11 a0).bind fun _ => (fX12_n a0 h).bind fun p3 => if v1 = p3.1 then (fX12_takeList_15 FU a0 0 p3.2) else (some (0, p3.2))
theorem tX12_takeList {L : Nat} {xs : Nat → Int32} {l : Launch} {res : Int × Hp} (a0 : Nat) (h : Hp)  (H : fX12_takeList a0 h = some res) : J L xs l RX12 cX12_takeList 2 false 3 (QB res) 0 0 0 (alv 0 [vr a0]) [] h := by
  unfold fX12_takeList at H
  show J L xs l RX12 cX12_takeList 2 false 3 (QB res) 0 0 0 [(0, vr a0)] [] h
  refine j_aload_n (i := 0) (pc' := 1) dX12_takeList_0 rfl rfl 0 rfl ?_
  obtain ⟨v1, e1, H⟩ := bs H
  refine j_getI (pc' := 4) dX12_takeList_1 rfl fl_X12_154 e1 (fun r1 => ?_)
  refine j_aload_n (i := 0) (pc' := 5) dX12_takeList_4 rfl rfl 0 rfl ?_
  obtain ⟨u2, e2, H⟩ := bs H
  obtain ⟨p3, e3, H⟩ := bs H
  refine j_cVi (y := yX12_n) (dY := 1) (vs := []) (st := [vi v1]) (q := a0) (pc' := 8) dX12_takeList_5 rfl ymX12_n yvX12_n ml_X12_90 (by decide) rfl (Nat.le_of_ble_eq_true rfl) (Nat.le_of_ble_eq_true rfl) e2 (tX12_n a0 h e3) (fun r3 z3 => ?_)
  refine j_icmp_eq (tgt := 13) (pc' := 11) dX12_takeList_8 (by decide) rfl r1 r3 (fun c4 => ?_) (fun c4 => ?_)
  · rw [if_pos c4] at H
    refine j_iconst (pc' := 14) dX12_takeList_13 rfl ?_
    refine j_istore_n (i := 1) (lv' := [(0, vr a0), (1, vi 0)]) (pc' := 15) dX12_takeList_14 rfl rfl (by decide) [1, 0] rfl ?_
    exact tX12_takeList_15   FU a0 0 p3.2 ⟨by decide, by decide⟩ H
  · rw [if_neg c4] at H
    refine j_iconst (pc' := 12) dX12_takeList_11 rfl ?_
    obtain rfl := Option.some.inj H
    exact j_iret dX12_takeList_12 ⟨by decide, by decide⟩ ⟨rfl, rfl, Or.inl rfl⟩
