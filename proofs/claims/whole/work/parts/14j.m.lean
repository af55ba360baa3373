-- X12_become
noncomputable def fX12_become_25  (h : Hp) : Option (Hp) :=
  some h
theorem tX12_become_25 {L : Nat} {xs : Nat → Int32} {l : Launch} {res : Hp}  (h : Hp)  (H : fX12_become_25  h = some res) : J L xs l RX12 cX12_become 3 false 2 (QV res) 0 0 25 [] [] h := by
  unfold fX12_become_25 at H
  obtain rfl := Option.some.inj H
  exact j_vret dX12_become_25 ⟨rfl, rfl⟩
noncomputable def fX12_become_2 : Nat → Nat → Nat → Int → Hp → Option (Hp)
  | 0, _, _, _, _ => none
  | n + 1, x0, x1, x2, h => (cob h 11 x0).bind fun _ => (fX12_n x0 h).bind fun p2 => if p2.1 ≤ x2 then (fX12_become_25 p2.2) else ((getR p2.2 11 x0 5).bind fun v4 => (ald p2.2 0 x1 x2).bind fun v5 => (ast p2.2 0 v4 x2 v5).bind fun h6 => (c32 (x2 + 1)).bind fun _ => fX12_become_2 n x0 x1 (x2 + 1) h6)
theorem tX12_become_2 {L : Nat} {xs : Nat → Int32} {l : Launch} {res : Hp} : ∀ (n : Nat) (x0 : Nat) (x1 : Nat) (x2 : Int) (h : Hp), R32 x2 → fX12_become_2 n x0 x1 x2 h = some res → J L xs l RX12 cX12_become 3 false 2 (QV res) 0 0 2 [(0, vr x0), (1, vr x1), (2, vi x2)] [] h := by
  intro n
  induction n with
  | zero => intro x0 x1 x2 h rx2 H; cases H
  | succ n ih =>
    intro x0 x1 x2 h rx2 H
    rw [fX12_become_2] at H
    refine j_iload_n (i := 2) (pc' := 3) dX12_become_2 rfl rfl 2 rfl ?_
    refine j_aload_n (i := 0) (pc' := 4) dX12_become_3 rfl rfl 0 rfl ?_
    obtain ⟨u1, e1, H⟩ := bs H
    obtain ⟨p2, e2, H⟩ := bs H
    refine j_cVi (y := yX12_n) (dY := 1) (vs := []) (st := [vi x2]) (q := x0) (pc' := 7) dX12_become_4 rfl ymX12_n yvX12_n ml_X12_90 (by decide) rfl (Nat.le_of_ble_eq_true rfl) (Nat.le_of_ble_eq_true rfl) e1 (tX12_n x0 h e2) (fun r2 z2 => ?_)
    refine j_icmp_ge (tgt := 25) (pc' := 10) dX12_become_7 (by decide) rfl rx2 r2 (fun c3 => ?_) (fun c3 => ?_)
    · rw [if_pos c3] at H
      refine j_sub (lv' := []) [] rfl ?_
      exact tX12_become_25   p2.2  H
    · rw [if_neg c3] at H
      refine j_aload_n (i := 0) (pc' := 11) dX12_become_10 rfl rfl 0 rfl ?_
      obtain ⟨v4, e4, H⟩ := bs H
      refine j_getR (pc' := 14) dX12_become_11 rfl fl_X12_26 e4 (fun r4 => ?_)
      refine j_iload_n (i := 2) (pc' := 15) dX12_become_14 rfl rfl 2 rfl ?_
      refine j_aload_n (i := 1) (pc' := 16) dX12_become_15 rfl rfl 1 rfl ?_
      refine j_iload_n (i := 2) (pc' := 17) dX12_become_16 rfl rfl 2 rfl ?_
      obtain ⟨v5, e5, H⟩ := bs H
      refine j_iald (pc' := 18) dX12_become_17 rfl e5 (fun r5 => ?_)
      obtain ⟨h6, e6, H⟩ := bs H
      refine j_iast (pc' := 19) dX12_become_18 rfl r5 e6 ?_
      obtain ⟨u7, e7, H⟩ := bs H
      have r7 := c32_R e7
      refine j_iinc (k0 := 2) (lv' := [(0, vr x0), (1, vr x1), (2, vi (x2 + 1))]) (pc' := 22) dX12_become_19 rfl rfl (by decide) [1, 2, 0] rfl ?_
      refine j_goto (tgt := 2) dX12_become_22 (by decide) ?_
      exact ih x0 x1 (x2 + 1) h6 r7 H
noncomputable def fX12_become (a0 : Nat) (a1 : Nat) (h : Hp) : Option (Hp) :=
  fX12_become_2 FU a0 a1 0 h
theorem tX12_become {L : Nat} {xs : Nat → Int32} {l : Launch} {res : Hp} (a0 : Nat) (a1 : Nat) (h : Hp)  (H : fX12_become a0 a1 h = some res) : J L xs l RX12 cX12_become 3 false 2 (QV res) 0 0 0 (alv 0 [vr a0, vr a1]) [] h := by
  unfold fX12_become at H
  show J L xs l RX12 cX12_become 3 false 2 (QV res) 0 0 0 [(0, vr a0), (1, vr a1)] [] h
  refine j_iconst (pc' := 1) dX12_become_0 rfl ?_
  refine j_istore_n (i := 2) (lv' := [(0, vr a0), (1, vr a1), (2, vi 0)]) (pc' := 2) dX12_become_1 rfl rfl (by decide) [1, 2, 0] rfl ?_
  exact tX12_become_2   FU a0 a1 0 h ⟨by decide, by decide⟩ H
-- X12_takeNow
noncomputable def fX12_takeNow_28  (h : Hp) : Option (Hp) :=
  some h
theorem tX12_takeNow_28 {L : Nat} {xs : Nat → Int32} {l : Launch} {res : Hp}  (h : Hp)  (H : fX12_takeNow_28  h = some res) : J L xs l RX12 cX12_takeNow 2 false 2 (QV res) 0 0 28 [] [] h := by
  unfold fX12_takeNow_28 at H
  obtain rfl := Option.some.inj H
  exact j_vret dX12_takeNow_28 ⟨rfl, rfl⟩
noncomputable def fX12_takeNow_2 : Nat → Nat → Int → Hp → Option (Hp)
  | 0, _, _, _ => none
  | n + 1, x0, x1, h => (cob h 11 x0).bind fun _ => (fX12_n x0 h).bind fun p2 => if p2.1 ≤ x1 then (fX12_takeNow_28 p2.2) else ((getR p2.2 11 x0 20).bind fun v4 => (getR p2.2 11 x0 5).bind fun v5 => (ald p2.2 0 v5 x1).bind fun v6 => (ast p2.2 0 v4 x1 v6).bind fun h7 => (c32 (x1 + 1)).bind fun _ => fX12_takeNow_2 n x0 (x1 + 1) h7)
theorem tX12_takeNow_2 {L : Nat} {xs : Nat → Int32} {l : Launch} {res : Hp} : ∀ (n : Nat) (x0 : Nat) (x1 : Int) (h : Hp), R32 x1 → fX12_takeNow_2 n x0 x1 h = some res → J L xs l RX12 cX12_takeNow 2 false 2 (QV res) 0 0 2 [(0, vr x0), (1, vi x1)] [] h := by
  intro n
  induction n with
  | zero => intro x0 x1 h rx1 H; cases H
  | succ n ih =>
    intro x0 x1 h rx1 H
    rw [fX12_takeNow_2] at H
    refine j_iload_n (i := 1) (pc' := 3) dX12_takeNow_2 rfl rfl 1 rfl ?_
    refine j_aload_n (i := 0) (pc' := 4) dX12_takeNow_3 rfl rfl 0 rfl ?_
    obtain ⟨u1, e1, H⟩ := bs H
    obtain ⟨p2, e2, H⟩ := bs H
    refine j_cVi (y := yX12_n) (dY := 1) (vs := []) (st := [vi x1]) (q := x0) (pc' := 7) dX12_takeNow_4 rfl ymX12_n yvX12_n ml_X12_90 (by decide) rfl (Nat.le_of_ble_eq_true rfl) (Nat.le_of_ble_eq_true rfl) e1 (tX12_n x0 h e2) (fun r2 z2 => ?_)
    refine j_icmp_ge (tgt := 28) (pc' := 10) dX12_takeNow_7 (by decide) rfl rx1 r2 (fun c3 => ?_) (fun c3 => ?_)
    · rw [if_pos c3] at H
      refine j_sub (lv' := []) [] rfl ?_
      exact tX12_takeNow_28   p2.2  H
    · rw [if_neg c3] at H
      refine j_aload_n (i := 0) (pc' := 11) dX12_takeNow_10 rfl rfl 0 rfl ?_
      obtain ⟨v4, e4, H⟩ := bs H
      refine j_getR (pc' := 14) dX12_takeNow_11 rfl fl_X12_58 e4 (fun r4 => ?_)
      refine j_iload_n (i := 1) (pc' := 15) dX12_takeNow_14 rfl rfl 1 rfl ?_
      refine j_aload_n (i := 0) (pc' := 16) dX12_takeNow_15 rfl rfl 0 rfl ?_
      obtain ⟨v5, e5, H⟩ := bs H
      refine j_getR (pc' := 19) dX12_takeNow_16 rfl fl_X12_26 e5 (fun r5 => ?_)
      refine j_iload_n (i := 1) (pc' := 20) dX12_takeNow_19 rfl rfl 1 rfl ?_
      obtain ⟨v6, e6, H⟩ := bs H
      refine j_iald (pc' := 21) dX12_takeNow_20 rfl e6 (fun r6 => ?_)
      obtain ⟨h7, e7, H⟩ := bs H
      refine j_iast (pc' := 22) dX12_takeNow_21 rfl r6 e7 ?_
      obtain ⟨u8, e8, H⟩ := bs H
      have r8 := c32_R e8
      refine j_iinc (k0 := 1) (lv' := [(0, vr x0), (1, vi (x1 + 1))]) (pc' := 25) dX12_takeNow_22 rfl rfl (by decide) [1, 0] rfl ?_
      refine j_goto (tgt := 2) dX12_takeNow_25 (by decide) ?_
      exact ih x0 (x1 + 1) h7 r8 H
noncomputable def fX12_takeNow (a0 : Nat) (h : Hp) : Option (Hp) :=
  fX12_takeNow_2 FU a0 0 h
theorem tX12_takeNow {L : Nat} {xs : Nat → Int32} {l : Launch} {res : Hp} (a0 : Nat) (h : Hp)  (H : fX12_takeNow a0 h = some res) : J L xs l RX12 cX12_takeNow 2 false 2 (QV res) 0 0 0 (alv 0 [vr a0]) [] h := by
  unfold fX12_takeNow at H
  show J L xs l RX12 cX12_takeNow 2 false 2 (QV res) 0 0 0 [(0, vr a0)] [] h
  refine j_iconst (pc' := 1) dX12_takeNow_0 rfl ?_
  refine j_istore_n (i := 1) (lv' := [(0, vr a0), (1, vi 0)]) (pc' := 2) dX12_takeNow_1 rfl rfl (by decide) [1, 0] rfl ?_
  exact tX12_takeNow_2   FU a0 0 h ⟨by decide, by decide⟩ H
-- X12_put
noncomputable def fX12_put_29 (x0 : Nat) (h : Hp) : Option (Int × Hp) :=
  (cob h 11 x0).bind fun _ => (fX12_no x0 1 h).bind fun p2 => some (p2.1, p2.2)
theorem tX12_put_29 {L : Nat} {xs : Nat → Int32} {l : Launch} {res : Int × Hp} (x0 : Nat) (h : Hp)  (H : fX12_put_29 x0 h = some res) : J L xs l RX12 cX12_put 4 false 3 (QI res) 0 0 29 [(0, vr x0)] [] h := by
  unfold fX12_put_29 at H
  refine j_aload_n (i := 0) (pc' := 30) dX12_put_29 rfl rfl 0 rfl ?_
  refine j_iconst (pc' := 31) dX12_put_30 rfl ?_
  obtain ⟨u1, e1, H⟩ := bs H
  obtain ⟨p2, e2, H⟩ := bs H
  refine j_cVi (y := yX12_no) (dY := 1) (vs := [vi 1]) (st := []) (q := x0) (pc' := 34) dX12_put_31 rfl ymX12_no yvX12_no ml_X12_98 (by decide) rfl (Nat.le_of_ble_eq_true rfl) (Nat.le_of_ble_eq_true rfl) e1 (tX12_no x0 1 h ⟨by decide, by decide⟩ e2) (fun r2 z2 => ?_)
  obtain rfl := Option.some.inj H
  exact j_iret dX12_put_34 r2 ⟨rfl, rfl⟩
noncomputable def fX12_put (a0 : Nat) (a1 : Int) (a2 : Int) (h : Hp) : Option (Int × Hp) :=
  (putV h 11 a0 19 (vi 0)).bind fun h1 => (cob h1 11 a0).bind fun _ => (fX12_isThing a0 a1 h1).bind fun p3 => if p3.1 = 0 then (fX12_put_29 a0 p3.2) else (if a2 < 0 then (fX12_put_29 a0 p3.2) else ((getR p3.2 11 a0 5).bind fun v6 => (cob p3.2 11 a0).bind fun _ => (fX12_heaps a0 v6 p3.2).bind fun p8 => if a2 ≤ p8.1 then ((cob p8.2 11 a0).bind fun _ => (fX12_change a0 p8.2).bind fun h11 => (cob h11 11 a0).bind fun _ => (fX12_takeNow a0 h11).bind fun h13 => (getR h13 11 a0 20).bind fun v14 => (ast h13 0 v14 a1 a2).bind fun h15 => (getR h15 11 a0 20).bind fun v16 => (cob h15 11 a0).bind fun _ => (fX12_number a0 v16 h15).bind fun p18 => (getR p18.2 11 a0 20).bind fun v19 => (cob p18.2 11 a0).bind fun _ => (fX12_become a0 v19 p18.2).bind fun h21 => some (p18.1, h21)) else (fX12_put_29 a0 p8.2)))
theorem tX12_put {L : Nat} {xs : Nat → Int32} {l : Launch} {res : Int × Hp} (a0 : Nat) (a1 : Int) (a2 : Int) (h : Hp) (ra1 : R32 a1) (ra2 : R32 a2) (H : fX12_put a0 a1 a2 h = some res) : J L xs l RX12 cX12_put 4 false 3 (QI res) 0 0 0 (alv 0 [vr a0, vi a1, vi a2]) [] h := by
  unfold fX12_put at H
  show J L xs l RX12 cX12_put 4 false 3 (QI res) 0 0 0 [(0, vr a0), (1, vi a1), (2, vi a2)] [] h
  refine j_aload_n (i := 0) (pc' := 1) dX12_put_0 rfl rfl 0 rfl ?_
  refine j_iconst (pc' := 2) dX12_put_1 rfl ?_
  obtain ⟨h1, e1, H⟩ := bs H
  refine j_putV (pc' := 5) dX12_put_2 rfl fp_X12_77 tI ⟨by decide, by decide⟩ e1 ?_
  refine j_aload_n (i := 0) (pc' := 6) dX12_put_5 rfl rfl 0 rfl ?_
  refine j_iload_n (i := 1) (pc' := 7) dX12_put_6 rfl rfl 1 rfl ?_
  obtain ⟨u2, e2, H⟩ := bs H
  obtain ⟨p3, e3, H⟩ := bs H
  refine j_cVb (y := yX12_isThing) (dY := 2) (vs := [vi a1]) (st := []) (q := a0) (pc' := 10) dX12_put_7 rfl ymX12_isThing yvX12_isThing ml_X12_94 (by decide) rfl (Nat.le_of_ble_eq_true rfl) (Nat.le_of_ble_eq_true rfl) e2 (tX12_isThing a0 a1 h1 ra1 e3) (fun r3 b3 z3 => ?_)
  refine j_if_eq (tgt := 29) (pc' := 13) dX12_put_10 (by decide) rfl r3 (fun c4 => ?_) (fun c4 => ?_)
  · rw [if_pos c4] at H
    refine j_sub (lv' := [(0, vr a0)]) [0] rfl ?_
    exact tX12_put_29   a0 p3.2  H
  · rw [if_neg c4] at H
    refine j_iload_n (i := 2) (pc' := 14) dX12_put_13 rfl rfl 2 rfl ?_
    refine j_if_lt (tgt := 29) (pc' := 17) dX12_put_14 (by decide) rfl ra2 (fun c5 => ?_) (fun c5 => ?_)
    · rw [if_pos c5] at H
      refine j_sub (lv' := [(0, vr a0)]) [0] rfl ?_
      exact tX12_put_29   a0 p3.2  H
    · rw [if_neg c5] at H
      refine j_iload_n (i := 2) (pc' := 18) dX12_put_17 rfl rfl 2 rfl ?_
      refine j_aload_n (i := 0) (pc' := 19) dX12_put_18 rfl rfl 0 rfl ?_
      refine j_aload_n (i := 0) (pc' := 20) dX12_put_19 rfl rfl 0 rfl ?_
      obtain ⟨v6, e6, H⟩ := bs H
      refine j_getR (pc' := 23) dX12_put_20 rfl fl_X12_26 e6 (fun r6 => ?_)
      obtain ⟨u7, e7, H⟩ := bs H
      obtain ⟨p8, e8, H⟩ := bs H
      refine j_cVi (y := yX12_heaps) (dY := 2) (vs := [vr v6]) (st := [vi a2]) (q := a0) (pc' := 26) dX12_put_23 rfl ymX12_heaps yvX12_heaps ml_X12_133 (by decide) rfl (Nat.le_of_ble_eq_true rfl) (Nat.le_of_ble_eq_true rfl) e7 (tX12_heaps a0 v6 p3.2 e8) (fun r8 z8 => ?_)
      refine j_icmp_le (tgt := 35) (pc' := 29) dX12_put_26 (by decide) rfl ra2 r8 (fun c9 => ?_) (fun c9 => ?_)
      · rw [if_pos c9] at H
        refine j_aload_n (i := 0) (pc' := 36) dX12_put_35 rfl rfl 0 rfl ?_
        obtain ⟨u10, e10, H⟩ := bs H
        obtain ⟨h11, e11, H⟩ := bs H
        refine j_cVv (y := yX12_change) (dY := 2) (vs := []) (st := []) (q := a0) (pc' := 39) dX12_put_36 rfl ymX12_change yvX12_change ml_X12_102 (by decide) rfl (Nat.le_of_ble_eq_true rfl) (Nat.le_of_ble_eq_true rfl) e10 (tX12_change a0 p8.2 e11) (fun z11 => ?_)
        refine j_aload_n (i := 0) (pc' := 40) dX12_put_39 rfl rfl 0 rfl ?_
        obtain ⟨u12, e12, H⟩ := bs H
        obtain ⟨h13, e13, H⟩ := bs H
        refine j_cVv (y := yX12_takeNow) (dY := 2) (vs := []) (st := []) (q := a0) (pc' := 43) dX12_put_40 rfl ymX12_takeNow yvX12_takeNow ml_X12_144 (by decide) rfl (Nat.le_of_ble_eq_true rfl) (Nat.le_of_ble_eq_true rfl) e12 (tX12_takeNow a0 h11 e13) (fun z13 => ?_)
        refine j_aload_n (i := 0) (pc' := 44) dX12_put_43 rfl rfl 0 rfl ?_
        obtain ⟨v14, e14, H⟩ := bs H
        refine j_getR (pc' := 47) dX12_put_44 rfl fl_X12_58 e14 (fun r14 => ?_)
        refine j_iload_n (i := 1) (pc' := 48) dX12_put_47 rfl rfl 1 rfl ?_
        refine j_iload_n (i := 2) (pc' := 49) dX12_put_48 rfl rfl 2 rfl ?_
        obtain ⟨h15, e15, H⟩ := bs H
        refine j_iast (pc' := 50) dX12_put_49 rfl ra2 e15 ?_
        refine j_aload_n (i := 0) (pc' := 51) dX12_put_50 rfl rfl 0 rfl ?_
        refine j_aload_n (i := 0) (pc' := 52) dX12_put_51 rfl rfl 0 rfl ?_
        obtain ⟨v16, e16, H⟩ := bs H
        refine j_getR (pc' := 55) dX12_put_52 rfl fl_X12_58 e16 (fun r16 => ?_)
        obtain ⟨u17, e17, H⟩ := bs H
        obtain ⟨p18, e18, H⟩ := bs H
        refine j_cVi (y := yX12_number) (dY := 2) (vs := [vr v16]) (st := []) (q := a0) (pc' := 58) dX12_put_55 rfl ymX12_number yvX12_number ml_X12_147 (by decide) rfl (Nat.le_of_ble_eq_true rfl) (Nat.le_of_ble_eq_true rfl) e17 (tX12_number a0 v16 h15 e18) (fun r18 z18 => ?_)
        refine j_istore_n (i := 3) (lv' := [(0, vr a0), (1, vi a1), (2, vi a2), (3, vi p18.1)]) (pc' := 59) dX12_put_58 rfl rfl (by decide) [1, 2, 3, 0] rfl ?_
        refine j_aload_n (i := 0) (pc' := 60) dX12_put_59 rfl rfl 0 rfl ?_
        refine j_aload_n (i := 0) (pc' := 61) dX12_put_60 rfl rfl 0 rfl ?_
        obtain ⟨v19, e19, H⟩ := bs H
        refine j_getR (pc' := 64) dX12_put_61 rfl fl_X12_58 e19 (fun r19 => ?_)
        obtain ⟨u20, e20, H⟩ := bs H
        obtain ⟨h21, e21, H⟩ := bs H
        refine j_cVv (y := yX12_become) (dY := 2) (vs := [vr v19]) (st := []) (q := a0) (pc' := 67) dX12_put_64 rfl ymX12_become yvX12_become ml_X12_150 (by decide) rfl (Nat.le_of_ble_eq_true rfl) (Nat.le_of_ble_eq_true rfl) e20 (tX12_become a0 v19 p18.2 e21) (fun z21 => ?_)
        refine j_iload_n (i := 3) (pc' := 68) dX12_put_67 rfl rfl 3 rfl ?_
        obtain rfl := Option.some.inj H
        exact j_iret dX12_put_68 r18 ⟨rfl, rfl⟩
      · rw [if_neg c9] at H
        refine j_sub (lv' := [(0, vr a0)]) [0] rfl ?_
        exact tX12_put_29   a0 p8.2  H
-- X12_count
noncomputable def fX12_count_89 (s0 : Int) (h : Hp) : Option (Int × Hp) :=
  some (s0, h)
theorem tX12_count_89 {L : Nat} {xs : Nat → Int32} {l : Launch} {res : Int × Hp} (s0 : Int) (h : Hp) (rs0 : R32 s0) (H : fX12_count_89 s0 h = some res) : J L xs l RX12 cX12_count 2 false 3 (QI res) 0 0 89 [] [vi s0] h := by
  unfold fX12_count_89 at H
  obtain rfl := Option.some.inj H
  exact j_iret dX12_count_89 rs0 ⟨rfl, rfl⟩
noncomputable def fX12_count (a0 : Nat) (a1 : Int) (h : Hp) : Option (Int × Hp) :=
  (putV h 11 a0 19 (vi 0)).bind fun h1 => if a1 = 0 then ((cob h1 11 a0).bind fun _ => (fX12_n a0 h1).bind fun p4 => some (p4.1, p4.2)) else if a1 = 1 then ((getR h1 11 a0 5).bind fun v6 => (cob h1 11 a0).bind fun _ => (fX12_heaps a0 v6 h1).bind fun p8 => some (p8.1, p8.2)) else if a1 = 2 then ((getI h1 11 a0 6).bind fun v10 => some (v10, h1)) else if a1 = 3 then ((getI h1 11 a0 11).bind fun v12 => some (v12, h1)) else if a1 = 4 then ((getI h1 11 a0 18).bind fun v14 => some (v14, h1)) else if a1 = 5 then ((getI h1 11 a0 8).bind fun v16 => if v16 = (-1) then (fX12_count_89 (-1) h1) else ((getI h1 11 a0 9).bind fun v18 => fX12_count_89 v18 h1)) else ((cob h1 11 a0).bind fun _ => (fX12_no a0 1 h1).bind fun p20 => some (p20.1, p20.2))
theorem tX12_count {L : Nat} {xs : Nat → Int32} {l : Launch} {res : Int × Hp} (a0 : Nat) (a1 : Int) (h : Hp) (ra1 : R32 a1) (H : fX12_count a0 a1 h = some res) : J L xs l RX12 cX12_count 2 false 3 (QI res) 0 0 0 (alv 0 [vr a0, vi a1]) [] h := by
  unfold fX12_count at H
  show J L xs l RX12 cX12_count 2 false 3 (QI res) 0 0 0 [(0, vr a0), (1, vi a1)] [] h
  refine j_aload_n (i := 0) (pc' := 1) dX12_count_0 rfl rfl 0 rfl ?_
  refine j_iconst (pc' := 2) dX12_count_1 rfl ?_
  obtain ⟨h1, e1, H⟩ := bs H
  refine j_putV (pc' := 5) dX12_count_2 rfl fp_X12_77 tI ⟨by decide, by decide⟩ e1 ?_
  refine j_iload_n (i := 1) (pc' := 6) dX12_count_5 rfl rfl 1 rfl ?_
  by_cases c2 : a1 = 0
  · rw [if_pos c2] at H
    refine j_tabIn (tgt := 44) (off := 38) dX12_count_6 ra1 (by omega) (by omega) (by rw [c2]; rfl) (by decide) ?_
    refine j_aload_n (i := 0) (pc' := 45) dX12_count_44 rfl rfl 0 rfl ?_
    obtain ⟨u3, e3, H⟩ := bs H
    obtain ⟨p4, e4, H⟩ := bs H
    refine j_cVi (y := yX12_n) (dY := 1) (vs := []) (st := []) (q := a0) (pc' := 48) dX12_count_45 rfl ymX12_n yvX12_n ml_X12_90 (by decide) rfl (Nat.le_of_ble_eq_true rfl) (Nat.le_of_ble_eq_true rfl) e3 (tX12_n a0 h1 e4) (fun r4 z4 => ?_)
    obtain rfl := Option.some.inj H
    exact j_iret dX12_count_48 r4 ⟨rfl, rfl⟩
  rw [if_neg c2] at H
  by_cases c5 : a1 = 1
  · rw [if_pos c5] at H
    refine j_tabIn (tgt := 49) (off := 43) dX12_count_6 ra1 (by omega) (by omega) (by rw [c5]; rfl) (by decide) ?_
    refine j_aload_n (i := 0) (pc' := 50) dX12_count_49 rfl rfl 0 rfl ?_
    refine j_aload_n (i := 0) (pc' := 51) dX12_count_50 rfl rfl 0 rfl ?_
    obtain ⟨v6, e6, H⟩ := bs H
    refine j_getR (pc' := 54) dX12_count_51 rfl fl_X12_26 e6 (fun r6 => ?_)
    obtain ⟨u7, e7, H⟩ := bs H
    obtain ⟨p8, e8, H⟩ := bs H
    refine j_cVi (y := yX12_heaps) (dY := 2) (vs := [vr v6]) (st := []) (q := a0) (pc' := 57) dX12_count_54 rfl ymX12_heaps yvX12_heaps ml_X12_133 (by decide) rfl (Nat.le_of_ble_eq_true rfl) (Nat.le_of_ble_eq_true rfl) e7 (tX12_heaps a0 v6 h1 e8) (fun r8 z8 => ?_)
    obtain rfl := Option.some.inj H
    exact j_iret dX12_count_57 r8 ⟨rfl, rfl⟩
  rw [if_neg c5] at H
  by_cases c9 : a1 = 2
  · rw [if_pos c9] at H
    refine j_tabIn (tgt := 58) (off := 52) dX12_count_6 ra1 (by omega) (by omega) (by rw [c9]; rfl) (by decide) ?_
    refine j_aload_n (i := 0) (pc' := 59) dX12_count_58 rfl rfl 0 rfl ?_
    obtain ⟨v10, e10, H⟩ := bs H
    refine j_getI (pc' := 62) dX12_count_59 rfl fl_X12_80 e10 (fun r10 => ?_)
    obtain rfl := Option.some.inj H
    exact j_iret dX12_count_62 r10 ⟨rfl, rfl⟩
  rw [if_neg c9] at H
  by_cases c11 : a1 = 3
  · rw [if_pos c11] at H
    refine j_tabIn (tgt := 63) (off := 57) dX12_count_6 ra1 (by omega) (by omega) (by rw [c11]; rfl) (by decide) ?_
    refine j_aload_n (i := 0) (pc' := 64) dX12_count_63 rfl rfl 0 rfl ?_
    obtain ⟨v12, e12, H⟩ := bs H
    refine j_getI (pc' := 67) dX12_count_64 rfl fl_X12_37 e12 (fun r12 => ?_)
    obtain rfl := Option.some.inj H
    exact j_iret dX12_count_67 r12 ⟨rfl, rfl⟩
  rw [if_neg c11] at H
  by_cases c13 : a1 = 4
  · rw [if_pos c13] at H
    refine j_tabIn (tgt := 68) (off := 62) dX12_count_6 ra1 (by omega) (by omega) (by rw [c13]; rfl) (by decide) ?_
    refine j_aload_n (i := 0) (pc' := 69) dX12_count_68 rfl rfl 0 rfl ?_
    obtain ⟨v14, e14, H⟩ := bs H
    refine j_getI (pc' := 72) dX12_count_69 rfl fl_X12_154 e14 (fun r14 => ?_)
    obtain rfl := Option.some.inj H
    exact j_iret dX12_count_72 r14 ⟨rfl, rfl⟩
  rw [if_neg c13] at H
  by_cases c15 : a1 = 5
  · rw [if_pos c15] at H
    refine j_tabIn (tgt := 73) (off := 67) dX12_count_6 ra1 (by omega) (by omega) (by rw [c15]; rfl) (by decide) ?_
    refine j_aload_n (i := 0) (pc' := 74) dX12_count_73 rfl rfl 0 rfl ?_
    obtain ⟨v16, e16, H⟩ := bs H
    refine j_getI (pc' := 77) dX12_count_74 rfl fl_X12_29 e16 (fun r16 => ?_)
    refine j_iconst (pc' := 78) dX12_count_77 rfl ?_
    refine j_icmp_ne (tgt := 85) (pc' := 81) dX12_count_78 (by decide) rfl r16 ⟨by decide, by decide⟩ (fun c17 => ?_) (fun c17 => ?_)
    · rw [if_neg c17] at H
      refine j_aload_n (i := 0) (pc' := 86) dX12_count_85 rfl rfl 0 rfl ?_
      obtain ⟨v18, e18, H⟩ := bs H
      refine j_getI (pc' := 89) dX12_count_86 rfl fl_X12_113 e18 (fun r18 => ?_)
      refine j_sub (lv' := []) [] rfl ?_
      exact tX12_count_89   v18 h1 r18 H
    · rw [if_pos c17] at H
      refine j_iconst (pc' := 82) dX12_count_81 rfl ?_
      refine j_goto (tgt := 89) dX12_count_82 (by decide) ?_
      refine j_sub (lv' := []) [] rfl ?_
      exact tX12_count_89   (-1) h1 ⟨by decide, by decide⟩ H
  rw [if_neg c15] at H
  refine j_tabOut (tgt := 90) dX12_count_6 ra1 (by omega) (by decide) ?_
  refine j_aload_n (i := 0) (pc' := 91) dX12_count_90 rfl rfl 0 rfl ?_
  refine j_iconst (pc' := 92) dX12_count_91 rfl ?_
  obtain ⟨u19, e19, H⟩ := bs H
  obtain ⟨p20, e20, H⟩ := bs H
  refine j_cVi (y := yX12_no) (dY := 1) (vs := [vi 1]) (st := []) (q := a0) (pc' := 95) dX12_count_92 rfl ymX12_no yvX12_no ml_X12_98 (by decide) rfl (Nat.le_of_ble_eq_true rfl) (Nat.le_of_ble_eq_true rfl) e19 (tX12_no a0 1 h1 ⟨by decide, by decide⟩ e20) (fun r20 z20 => ?_)
  obtain rfl := Option.some.inj H
  exact j_iret dX12_count_95 r20 ⟨rfl, rfl⟩
-- X12_heap
noncomputable def fX12_heap_27 (s0 : Int) (h : Hp) : Option (Int × Hp) :=
  some (s0, h)
theorem tX12_heap_27 {L : Nat} {xs : Nat → Int32} {l : Launch} {res : Int × Hp} (s0 : Int) (h : Hp) (rs0 : R32 s0) (H : fX12_heap_27 s0 h = some res) : J L xs l RX12 cX12_heap 2 false 3 (QI res) 0 0 27 [] [vi s0] h := by
  unfold fX12_heap_27 at H
  obtain rfl := Option.some.inj H
  exact j_iret dX12_heap_27 rs0 ⟨rfl, rfl⟩
noncomputable def fX12_heap (a0 : Nat) (a1 : Int) (h : Hp) : Option (Int × Hp) :=
  (putV h 11 a0 19 (vi 0)).bind fun h1 => (cob h1 11 a0).bind fun _ => (fX12_isThing a0 a1 h1).bind fun p3 => if p3.1 = 0 then ((cob p3.2 11 a0).bind fun _ => (fX12_no a0 1 p3.2).bind fun p6 => fX12_heap_27 p6.1 p6.2) else ((getR p3.2 11 a0 5).bind fun v7 => (ald p3.2 0 v7 a1).bind fun v8 => fX12_heap_27 v8 p3.2)
theorem tX12_heap {L : Nat} {xs : Nat → Int32} {l : Launch} {res : Int × Hp} (a0 : Nat) (a1 : Int) (h : Hp) (ra1 : R32 a1) (H : fX12_heap a0 a1 h = some res) : J L xs l RX12 cX12_heap 2 false 3 (QI res) 0 0 0 (alv 0 [vr a0, vi a1]) [] h := by
  unfold fX12_heap at H
  show J L xs l RX12 cX12_heap 2 false 3 (QI res) 0 0 0 [(0, vr a0), (1, vi a1)] [] h
  refine j_aload_n (i := 0) (pc' := 1) dX12_heap_0 rfl rfl 0 rfl ?_
  refine j_iconst (pc' := 2) dX12_heap_1 rfl ?_
  obtain ⟨h1, e1, H⟩ := bs H
  refine j_putV (pc' := 5) dX12_heap_2 rfl fp_X12_77 tI ⟨by decide, by decide⟩ e1 ?_
  refine j_aload_n (i := 0) (pc' := 6) dX12_heap_5 rfl rfl 0 rfl ?_
  refine j_iload_n (i := 1) (pc' := 7) dX12_heap_6 rfl rfl 1 rfl ?_
  obtain ⟨u2, e2, H⟩ := bs H
  obtain ⟨p3, e3, H⟩ := bs H
  refine j_cVb (y := yX12_isThing) (dY := 2) (vs := [vi a1]) (st := []) (q := a0) (pc' := 10) dX12_heap_7 rfl ymX12_isThing yvX12_isThing ml_X12_94 (by decide) rfl (Nat.le_of_ble_eq_true rfl) (Nat.le_of_ble_eq_true rfl) e2 (tX12_isThing a0 a1 h1 ra1 e3) (fun r3 b3 z3 => ?_)
  refine j_if_eq (tgt := 22) (pc' := 13) dX12_heap_10 (by decide) rfl r3 (fun c4 => ?_) (fun c4 => ?_)
  · rw [if_pos c4] at H
    refine j_aload_n (i := 0) (pc' := 23) dX12_heap_22 rfl rfl 0 rfl ?_
    refine j_iconst (pc' := 24) dX12_heap_23 rfl ?_
    obtain ⟨u5, e5, H⟩ := bs H
    obtain ⟨p6, e6, H⟩ := bs H
    refine j_cVi (y := yX12_no) (dY := 1) (vs := [vi 1]) (st := []) (q := a0) (pc' := 27) dX12_heap_24 rfl ymX12_no yvX12_no ml_X12_98 (by decide) rfl (Nat.le_of_ble_eq_true rfl) (Nat.le_of_ble_eq_true rfl) e5 (tX12_no a0 1 p3.2 ⟨by decide, by decide⟩ e6) (fun r6 z6 => ?_)
    refine j_sub (lv' := []) [] rfl ?_
    exact tX12_heap_27   p6.1 p6.2 r6 H
  · rw [if_neg c4] at H
    refine j_aload_n (i := 0) (pc' := 14) dX12_heap_13 rfl rfl 0 rfl ?_
    obtain ⟨v7, e7, H⟩ := bs H
    refine j_getR (pc' := 17) dX12_heap_14 rfl fl_X12_26 e7 (fun r7 => ?_)
    refine j_iload_n (i := 1) (pc' := 18) dX12_heap_17 rfl rfl 1 rfl ?_
    obtain ⟨v8, e8, H⟩ := bs H
    refine j_iald (pc' := 19) dX12_heap_18 rfl e8 (fun r8 => ?_)
    refine j_goto (tgt := 27) dX12_heap_19 (by decide) ?_
    refine j_sub (lv' := []) [] rfl ?_
    exact tX12_heap_27   v8 p3.2 r8 H
-- X12_pair
noncomputable def fX12_pair_30 (x0 : Nat) (h : Hp) : Option (Int × Hp) :=
  (cob h 11 x0).bind fun _ => (fX12_no x0 1 h).bind fun p2 => some (p2.1, p2.2)
theorem tX12_pair_30 {L : Nat} {xs : Nat → Int32} {l : Launch} {res : Int × Hp} (x0 : Nat) (h : Hp)  (H : fX12_pair_30 x0 h = some res) : J L xs l RX12 cX12_pair 5 false 3 (QI res) 0 0 30 [(0, vr x0)] [] h := by
  unfold fX12_pair_30 at H
  refine j_aload_n (i := 0) (pc' := 31) dX12_pair_30 rfl rfl 0 rfl ?_
  refine j_iconst (pc' := 32) dX12_pair_31 rfl ?_
  obtain ⟨u1, e1, H⟩ := bs H
  obtain ⟨p2, e2, H⟩ := bs H
  refine j_cVi (y := yX12_no) (dY := 1) (vs := [vi 1]) (st := []) (q := x0) (pc' := 35) dX12_pair_32 rfl ymX12_no yvX12_no ml_X12_98 (by decide) rfl (Nat.le_of_ble_eq_true rfl) (Nat.le_of_ble_eq_true rfl) e1 (tX12_no x0 1 h ⟨by decide, by decide⟩ e2) (fun r2 z2 => ?_)
  obtain rfl := Option.some.inj H
  exact j_iret dX12_pair_35 r2 ⟨rfl, rfl⟩
noncomputable def fX12_pair_97 (s0 : Int) (h : Hp) : Option (Int × Hp) :=
  some (s0, h)
theorem tX12_pair_97 {L : Nat} {xs : Nat → Int32} {l : Launch} {res : Int × Hp} (s0 : Int) (h : Hp) (rs0 : R32 s0) (H : fX12_pair_97 s0 h = some res) : J L xs l RX12 cX12_pair 5 false 3 (QI res) 0 0 97 [] [vi s0] h := by
  unfold fX12_pair_97 at H
  obtain rfl := Option.some.inj H
  exact j_iret dX12_pair_97 rs0 ⟨rfl, rfl⟩
noncomputable def fX12_pair (a0 : Nat) (a1 : Int) (a2 : Int) (a3 : Int) (h : Hp) : Option (Int × Hp) :=
  (putV h 11 a0 19 (vi 0)).bind fun h1 => (cob h1 11 a0).bind fun _ => (fX12_isThing a0 a1 h1).bind fun p3 => if p3.1 = 0 then (fX12_pair_30 a0 p3.2) else ((cob p3.2 11 a0).bind fun _ => (fX12_isThing a0 a2 p3.2).bind fun p6 => if p6.1 = 0 then (fX12_pair_30 a0 p6.2) else (if a3 < 0 then (fX12_pair_30 a0 p6.2) else (if a3 ≤ 2 then ((c32 ((12 * a1) + a2)).bind fun _ => if a1 = a2 then (fX12_pair_97 0 p6.2) else (if a3 = 0 then ((getR p6.2 11 a0 2).bind fun v19 => (ald p6.2 0 v19 ((12 * a1) + a2)).bind fun v20 => fX12_pair_97 v20 p6.2) else (if a3 = 1 then ((getR p6.2 11 a0 3).bind fun v17 => (ald p6.2 0 v17 ((12 * a1) + a2)).bind fun v18 => fX12_pair_97 v18 p6.2) else ((getR p6.2 11 a0 4).bind fun v14 => (ald p6.2 2 v14 ((12 * a1) + a2)).bind fun v15 => if v15 = 0 then (fX12_pair_97 0 p6.2) else (fX12_pair_97 1 p6.2))))) else (fX12_pair_30 a0 p6.2))))
theorem tX12_pair {L : Nat} {xs : Nat → Int32} {l : Launch} {res : Int × Hp} (a0 : Nat) (a1 : Int) (a2 : Int) (a3 : Int) (h : Hp) (ra1 : R32 a1) (ra2 : R32 a2) (ra3 : R32 a3) (H : fX12_pair a0 a1 a2 a3 h = some res) : J L xs l RX12 cX12_pair 5 false 3 (QI res) 0 0 0 (alv 0 [vr a0, vi a1, vi a2, vi a3]) [] h := by
  unfold fX12_pair at H
  show J L xs l RX12 cX12_pair 5 false 3 (QI res) 0 0 0 [(0, vr a0), (1, vi a1), (2, vi a2), (3, vi a3)] [] h
  refine j_aload_n (i := 0) (pc' := 1) dX12_pair_0 rfl rfl 0 rfl ?_
  refine j_iconst (pc' := 2) dX12_pair_1 rfl ?_
  obtain ⟨h1, e1, H⟩ := bs H
  refine j_putV (pc' := 5) dX12_pair_2 rfl fp_X12_77 tI ⟨by decide, by decide⟩ e1 ?_
  refine j_aload_n (i := 0) (pc' := 6) dX12_pair_5 rfl rfl 0 rfl ?_
  refine j_iload_n (i := 1) (pc' := 7) dX12_pair_6 rfl rfl 1 rfl ?_
  obtain ⟨u2, e2, H⟩ := bs H
  obtain ⟨p3, e3, H⟩ := bs H
  refine j_cVb (y := yX12_isThing) (dY := 2) (vs := [vi a1]) (st := []) (q := a0) (pc' := 10) dX12_pair_7 rfl ymX12_isThing yvX12_isThing ml_X12_94 (by decide) rfl (Nat.le_of_ble_eq_true rfl) (Nat.le_of_ble_eq_true rfl) e2 (tX12_isThing a0 a1 h1 ra1 e3) (fun r3 b3 z3 => ?_)
  refine j_if_eq (tgt := 30) (pc' := 13) dX12_pair_10 (by decide) rfl r3 (fun c4 => ?_) (fun c4 => ?_)
  · rw [if_pos c4] at H
    refine j_sub (lv' := [(0, vr a0)]) [0] rfl ?_
    exact tX12_pair_30   a0 p3.2  H
  · rw [if_neg c4] at H
    refine j_aload_n (i := 0) (pc' := 14) dX12_pair_13 rfl rfl 0 rfl ?_
    refine j_iload_n (i := 2) (pc' := 15) dX12_pair_14 rfl rfl 2 rfl ?_
    obtain ⟨u5, e5, H⟩ := bs H
    obtain ⟨p6, e6, H⟩ := bs H
    refine j_cVb (y := yX12_isThing) (dY := 2) (vs := [vi a2]) (st := []) (q := a0) (pc' := 18) dX12_pair_15 rfl ymX12_isThing yvX12_isThing ml_X12_94 (by decide) rfl (Nat.le_of_ble_eq_true rfl) (Nat.le_of_ble_eq_true rfl) e5 (tX12_isThing a0 a2 p3.2 ra2 e6) (fun r6 b6 z6 => ?_)
    refine j_if_eq (tgt := 30) (pc' := 21) dX12_pair_18 (by decide) rfl r6 (fun c7 => ?_) (fun c7 => ?_)
    · rw [if_pos c7] at H
      refine j_sub (lv' := [(0, vr a0)]) [0] rfl ?_
      exact tX12_pair_30   a0 p6.2  H
    · rw [if_neg c7] at H
      refine j_iload_n (i := 3) (pc' := 22) dX12_pair_21 rfl rfl 3 rfl ?_
      refine j_if_lt (tgt := 30) (pc' := 25) dX12_pair_22 (by decide) rfl ra3 (fun c8 => ?_) (fun c8 => ?_)
      · rw [if_pos c8] at H
        refine j_sub (lv' := [(0, vr a0)]) [0] rfl ?_
        exact tX12_pair_30   a0 p6.2  H
      · rw [if_neg c8] at H
        refine j_iload_n (i := 3) (pc' := 26) dX12_pair_25 rfl rfl 3 rfl ?_
        refine j_iconst (pc' := 27) dX12_pair_26 rfl ?_
        refine j_icmp_le (tgt := 36) (pc' := 30) dX12_pair_27 (by decide) rfl ra3 ⟨by decide, by decide⟩ (fun c9 => ?_) (fun c9 => ?_)
        · rw [if_pos c9] at H
          refine j_bipush (pc' := 38) dX12_pair_36 rfl (by decide +kernel) ?_
          refine j_iload_n (i := 1) (pc' := 39) dX12_pair_38 rfl rfl 1 rfl ?_
          refine j_imul (pc' := 40) dX12_pair_39 rfl ?_
          refine j_iload_n (i := 2) (pc' := 41) dX12_pair_40 rfl rfl 2 rfl ?_
          refine j_iadd (pc' := 42) dX12_pair_41 rfl ?_
          obtain ⟨u10, e10, H⟩ := bs H
          have r10 := c32_R e10
          refine j_istore (lv' := [(0, vr a0), (1, vi a1), (2, vi a2), (3, vi a3), (4, vi ((12 * a1) + a2))]) (pc' := 44) dX12_pair_42 rfl (by decide) [1, 2, 3, 4, 0] rfl ?_
          refine j_iload_n (i := 1) (pc' := 45) dX12_pair_44 rfl rfl 1 rfl ?_
          refine j_iload_n (i := 2) (pc' := 46) dX12_pair_45 rfl rfl 2 rfl ?_
          refine j_icmp_ne (tgt := 53) (pc' := 49) dX12_pair_46 (by decide) rfl ra1 ra2 (fun c11 => ?_) (fun c11 => ?_)
          · rw [if_neg c11] at H
            refine j_iload_n (i := 3) (pc' := 54) dX12_pair_53 rfl rfl 3 rfl ?_
            refine j_if_ne (tgt := 67) (pc' := 57) dX12_pair_54 (by decide) rfl ra3 (fun c12 => ?_) (fun c12 => ?_)
            · rw [if_neg c12] at H
              refine j_iload_n (i := 3) (pc' := 68) dX12_pair_67 rfl rfl 3 rfl ?_
              refine j_iconst (pc' := 69) dX12_pair_68 rfl ?_
              refine j_icmp_ne (tgt := 82) (pc' := 72) dX12_pair_69 (by decide) rfl ra3 ⟨by decide, by decide⟩ (fun c13 => ?_) (fun c13 => ?_)
              · rw [if_neg c13] at H
                refine j_aload_n (i := 0) (pc' := 83) dX12_pair_82 rfl rfl 0 rfl ?_
                obtain ⟨v14, e14, H⟩ := bs H
                refine j_getR (pc' := 86) dX12_pair_83 rfl fl_X12_22 e14 (fun r14 => ?_)
                refine j_iload (pc' := 88) dX12_pair_86 rfl 4 rfl ?_
                obtain ⟨v15, e15, H⟩ := bs H
                refine j_zald (pc' := 89) dX12_pair_88 rfl e15 (fun r15 => ?_)
                refine j_if_eq (tgt := 96) (pc' := 92) dX12_pair_89 (by decide) rfl r15 (fun c16 => ?_) (fun c16 => ?_)
                · rw [if_pos c16] at H
                  refine j_iconst (pc' := 97) dX12_pair_96 rfl ?_
                  refine j_sub (lv' := []) [] rfl ?_
                  exact tX12_pair_97   0 p6.2 ⟨by decide, by decide⟩ H
                · rw [if_neg c16] at H
                  refine j_iconst (pc' := 93) dX12_pair_92 rfl ?_
                  refine j_goto (tgt := 97) dX12_pair_93 (by decide) ?_
                  refine j_sub (lv' := []) [] rfl ?_
                  exact tX12_pair_97   1 p6.2 ⟨by decide, by decide⟩ H
              · rw [if_pos c13] at H
                refine j_aload_n (i := 0) (pc' := 73) dX12_pair_72 rfl rfl 0 rfl ?_
                obtain ⟨v17, e17, H⟩ := bs H
                refine j_getR (pc' := 76) dX12_pair_73 rfl fl_X12_19 e17 (fun r17 => ?_)
                refine j_iload (pc' := 78) dX12_pair_76 rfl 4 rfl ?_
                obtain ⟨v18, e18, H⟩ := bs H
                refine j_iald (pc' := 79) dX12_pair_78 rfl e18 (fun r18 => ?_)
                refine j_goto (tgt := 97) dX12_pair_79 (by decide) ?_
                refine j_sub (lv' := []) [] rfl ?_
                exact tX12_pair_97   v18 p6.2 r18 H
            · rw [if_pos c12] at H
              refine j_aload_n (i := 0) (pc' := 58) dX12_pair_57 rfl rfl 0 rfl ?_
              obtain ⟨v19, e19, H⟩ := bs H
              refine j_getR (pc' := 61) dX12_pair_58 rfl fl_X12_16 e19 (fun r19 => ?_)
              refine j_iload (pc' := 63) dX12_pair_61 rfl 4 rfl ?_
              obtain ⟨v20, e20, H⟩ := bs H
              refine j_iald (pc' := 64) dX12_pair_63 rfl e20 (fun r20 => ?_)
              refine j_goto (tgt := 97) dX12_pair_64 (by decide) ?_
              refine j_sub (lv' := []) [] rfl ?_
              exact tX12_pair_97   v20 p6.2 r20 H
          · rw [if_pos c11] at H
            refine j_iconst (pc' := 50) dX12_pair_49 rfl ?_
            refine j_goto (tgt := 97) dX12_pair_50 (by decide) ?_
            refine j_sub (lv' := []) [] rfl ?_
            exact tX12_pair_97   0 p6.2 ⟨by decide, by decide⟩ H
        · rw [if_neg c9] at H
          refine j_sub (lv' := [(0, vr a0)]) [0] rfl ?_
          exact tX12_pair_30   a0 p6.2  H
-- X12_isGoal
noncomputable def fX12_isGoal_14 (s0 : Int) (h : Hp) : Option (Int × Hp) :=
  (cbo s0).bind fun _ => some (s0, h)
theorem tX12_isGoal_14 {L : Nat} {xs : Nat → Int32} {l : Launch} {res : Int × Hp} (s0 : Int) (h : Hp) (rs0 : R32 s0) (H : fX12_isGoal_14 s0 h = some res) : J L xs l RX12 cX12_isGoal 1 false 1 (QB res) 0 0 14 [] [vi s0] h := by
  unfold fX12_isGoal_14 at H
  obtain ⟨u1, e1, H⟩ := bs H
  obtain rfl := Option.some.inj H
  exact j_iret dX12_isGoal_14 rs0 ⟨rfl, rfl, cbo_R e1⟩
noncomputable def fX12_isGoal_13  (h : Hp) : Option (Int × Hp) :=
  fX12_isGoal_14 0 h
theorem tX12_isGoal_13 {L : Nat} {xs : Nat → Int32} {l : Launch} {res : Int × Hp}  (h : Hp)  (H : fX12_isGoal_13  h = some res) : J L xs l RX12 cX12_isGoal 1 false 1 (QB res) 0 0 13 [] [] h := by
  unfold fX12_isGoal_13 at H
  refine j_iconst (pc' := 14) dX12_isGoal_13 rfl ?_
  exact tX12_isGoal_14   0 h ⟨by decide, by decide⟩ H
noncomputable def fX12_isGoal (a0 : Int) (h : Hp) : Option (Int × Hp) :=
  if a0 < 0 then (fX12_isGoal_13 h) else (if 4 ≤ a0 then (fX12_isGoal_13 h) else (fX12_isGoal_14 1 h))
theorem tX12_isGoal {L : Nat} {xs : Nat → Int32} {l : Launch} {res : Int × Hp} (a0 : Int) (h : Hp) (ra0 : R32 a0) (H : fX12_isGoal a0 h = some res) : J L xs l RX12 cX12_isGoal 1 false 1 (QB res) 0 0 0 (alv 0 [vi a0]) [] h := by
  unfold fX12_isGoal at H
  show J L xs l RX12 cX12_isGoal 1 false 1 (QB res) 0 0 0 [(0, vi a0)] [] h
  refine j_iload_n (i := 0) (pc' := 1) dX12_isGoal_0 rfl rfl 0 rfl ?_
  refine j_if_lt (tgt := 13) (pc' := 4) dX12_isGoal_1 (by decide) rfl ra0 (fun c1 => ?_) (fun c1 => ?_)
  · rw [if_pos c1] at H
    refine j_sub (lv' := []) [] rfl ?_
    exact tX12_isGoal_13   h  H
  · rw [if_neg c1] at H
    refine j_iload_n (i := 0) (pc' := 5) dX12_isGoal_4 rfl rfl 0 rfl ?_
    refine j_iconst (pc' := 6) dX12_isGoal_5 rfl ?_
    refine j_icmp_ge (tgt := 13) (pc' := 9) dX12_isGoal_6 (by decide) rfl ra0 ⟨by decide, by decide⟩ (fun c2 => ?_) (fun c2 => ?_)
    · rw [if_pos c2] at H
      refine j_sub (lv' := []) [] rfl ?_
      exact tX12_isGoal_13   h  H
    · rw [if_neg c2] at H
      refine j_iconst (pc' := 10) dX12_isGoal_9 rfl ?_
      refine j_goto (tgt := 14) dX12_isGoal_10 (by decide) ?_
      refine j_sub (lv' := []) [] rfl ?_
      exact tX12_isGoal_14   1 h ⟨by decide, by decide⟩ H
-- X12_cost
noncomputable def fX12_cost (a0 : Nat) (a1 : Int) (h : Hp) : Option (Int × Hp) :=
  (putV h 11 a0 19 (vi 0)).bind fun h1 => (fX12_isGoal a1 h1).bind fun p2 => if p2.1 = 0 then ((cob p2.2 11 a0).bind fun _ => (fX12_no a0 1 p2.2).bind fun p10 => some (p10.1, p10.2)) else ((cob p2.2 11 a0).bind fun _ => (fX12_useWays a0 p2.2).bind fun h5 => (getR h5 11 a0 5).bind fun v6 => (cob h5 11 a0).bind fun _ => (fX12_costOf a0 v6 a1 h5).bind fun p8 => some (p8.1, p8.2))
theorem tX12_cost {L : Nat} {xs : Nat → Int32} {l : Launch} {res : Int × Hp} (a0 : Nat) (a1 : Int) (h : Hp) (ra1 : R32 a1) (H : fX12_cost a0 a1 h = some res) : J L xs l RX12 cX12_cost 2 false 5 (QL res) 0 0 0 (alv 0 [vr a0, vi a1]) [] h := by
  unfold fX12_cost at H
  show J L xs l RX12 cX12_cost 2 false 5 (QL res) 0 0 0 [(0, vr a0), (1, vi a1)] [] h
  refine j_aload_n (i := 0) (pc' := 1) dX12_cost_0 rfl rfl 0 rfl ?_
  refine j_iconst (pc' := 2) dX12_cost_1 rfl ?_
  obtain ⟨h1, e1, H⟩ := bs H
  refine j_putV (pc' := 5) dX12_cost_2 rfl fp_X12_77 tI ⟨by decide, by decide⟩ e1 ?_
  refine j_iload_n (i := 1) (pc' := 6) dX12_cost_5 rfl rfl 1 rfl ?_
  obtain ⟨p2, e2, H⟩ := bs H
  refine j_cSb (y := yX12_isGoal) (dY := 1) (vs := [vi a1]) (st := []) (pc' := 9) dX12_cost_6 rfl ymX12_isGoal ysX12_isGoal ml_X12_157 (by decide) rfl (Nat.le_of_ble_eq_true rfl) (Nat.le_of_ble_eq_true rfl) (tX12_isGoal a1 h1 ra1 e2) (fun r2 b2 z2 => ?_)
  refine j_if_ne (tgt := 19) (pc' := 12) dX12_cost_9 (by decide) rfl r2 (fun c3 => ?_) (fun c3 => ?_)
  · rw [if_neg c3] at H
    refine j_aload_n (i := 0) (pc' := 20) dX12_cost_19 rfl rfl 0 rfl ?_
    obtain ⟨u4, e4, H⟩ := bs H
    obtain ⟨h5, e5, H⟩ := bs H
    refine j_cVv (y := yX12_useWays) (dY := 1) (vs := []) (st := []) (q := a0) (pc' := 23) dX12_cost_20 rfl ymX12_useWays yvX12_useWays ml_X12_160 (by decide) rfl (Nat.le_of_ble_eq_true rfl) (Nat.le_of_ble_eq_true rfl) e4 (tX12_useWays a0 p2.2 e5) (fun z5 => ?_)
    refine j_aload_n (i := 0) (pc' := 24) dX12_cost_23 rfl rfl 0 rfl ?_
    refine j_aload_n (i := 0) (pc' := 25) dX12_cost_24 rfl rfl 0 rfl ?_
    obtain ⟨v6, e6, H⟩ := bs H
    refine j_getR (pc' := 28) dX12_cost_25 rfl fl_X12_26 e6 (fun r6 => ?_)
    refine j_iload_n (i := 1) (pc' := 29) dX12_cost_28 rfl rfl 1 rfl ?_
    obtain ⟨u7, e7, H⟩ := bs H
    obtain ⟨p8, e8, H⟩ := bs H
    refine j_cVl (y := yX12_costOf) (dY := 4) (vs := [vr v6, vi a1]) (st := []) (q := a0) (pc' := 32) dX12_cost_29 rfl ymX12_costOf yvX12_costOf ml_X12_163 (by decide) rfl (Nat.le_of_ble_eq_true rfl) (Nat.le_of_ble_eq_true rfl) e7 (tX12_costOf a0 v6 a1 h5 ra1 e8) (fun r8 z8 => ?_)
    obtain rfl := Option.some.inj H
    exact j_lret dX12_cost_32 r8 ⟨rfl, rfl⟩
  · rw [if_pos c3] at H
    refine j_aload_n (i := 0) (pc' := 13) dX12_cost_12 rfl rfl 0 rfl ?_
    refine j_iconst (pc' := 14) dX12_cost_13 rfl ?_
    obtain ⟨u9, e9, H⟩ := bs H
    obtain ⟨p10, e10, H⟩ := bs H
    refine j_cVi (y := yX12_no) (dY := 1) (vs := [vi 1]) (st := []) (q := a0) (pc' := 17) dX12_cost_14 rfl ymX12_no yvX12_no ml_X12_98 (by decide) rfl (Nat.le_of_ble_eq_true rfl) (Nat.le_of_ble_eq_true rfl) e9 (tX12_no a0 1 p2.2 ⟨by decide, by decide⟩ e10) (fun r10 z10 => ?_)
    refine j_i2l (pc' := 18) dX12_cost_17 rfl r10 ?_
    obtain rfl := Option.some.inj H
    exact j_lret dX12_cost_18 (R32_l r10) ⟨rfl, rfl⟩
-- X12_middle
noncomputable def fX12_middle_21 (x0 : Nat) (h : Hp) : Option (Int × Hp) :=
  (cob h 11 x0).bind fun _ => (fX12_no x0 1 h).bind fun p2 => some (p2.1, p2.2)
theorem tX12_middle_21 {L : Nat} {xs : Nat → Int32} {l : Launch} {res : Int × Hp} (x0 : Nat) (h : Hp)  (H : fX12_middle_21 x0 h = some res) : J L xs l RX12 cX12_middle 2 false 4 (QI res) 0 0 21 [(0, vr x0)] [] h := by
  unfold fX12_middle_21 at H
  refine j_aload_n (i := 0) (pc' := 22) dX12_middle_21 rfl rfl 0 rfl ?_
  refine j_iconst (pc' := 23) dX12_middle_22 rfl ?_
  obtain ⟨u1, e1, H⟩ := bs H
  obtain ⟨p2, e2, H⟩ := bs H
  refine j_cVi (y := yX12_no) (dY := 1) (vs := [vi 1]) (st := []) (q := x0) (pc' := 26) dX12_middle_23 rfl ymX12_no yvX12_no ml_X12_98 (by decide) rfl (Nat.le_of_ble_eq_true rfl) (Nat.le_of_ble_eq_true rfl) e1 (tX12_no x0 1 h ⟨by decide, by decide⟩ e2) (fun r2 z2 => ?_)
  obtain rfl := Option.some.inj H
  exact j_iret dX12_middle_26 r2 ⟨rfl, rfl⟩
noncomputable def fX12_middle (a0 : Nat) (a1 : Int) (h : Hp) : Option (Int × Hp) :=
  (putV h 11 a0 19 (vi 0)).bind fun h1 => if a1 < 0 then (fX12_middle_21 a0 h1) else ((getR h1 11 a0 5).bind fun v3 => (cob h1 11 a0).bind fun _ => (fX12_heaps a0 v3 h1).bind fun p5 => if a1 < p5.1 then ((cob p5.2 11 a0).bind fun _ => (fX12_useWays a0 p5.2).bind fun h8 => (getR h8 11 a0 5).bind fun v9 => (cob h8 11 a0).bind fun _ => (fX12_middleOf a0 v9 a1 h8).bind fun p11 => some (p11.1, p11.2)) else (fX12_middle_21 a0 p5.2))
theorem tX12_middle {L : Nat} {xs : Nat → Int32} {l : Launch} {res : Int × Hp} (a0 : Nat) (a1 : Int) (h : Hp) (ra1 : R32 a1) (H : fX12_middle a0 a1 h = some res) : J L xs l RX12 cX12_middle 2 false 4 (QI res) 0 0 0 (alv 0 [vr a0, vi a1]) [] h := by
  unfold fX12_middle at H
  show J L xs l RX12 cX12_middle 2 false 4 (QI res) 0 0 0 [(0, vr a0), (1, vi a1)] [] h
  refine j_aload_n (i := 0) (pc' := 1) dX12_middle_0 rfl rfl 0 rfl ?_
  refine j_iconst (pc' := 2) dX12_middle_1 rfl ?_
  obtain ⟨h1, e1, H⟩ := bs H
  refine j_putV (pc' := 5) dX12_middle_2 rfl fp_X12_77 tI ⟨by decide, by decide⟩ e1 ?_
  refine j_iload_n (i := 1) (pc' := 6) dX12_middle_5 rfl rfl 1 rfl ?_
  refine j_if_lt (tgt := 21) (pc' := 9) dX12_middle_6 (by decide) rfl ra1 (fun c2 => ?_) (fun c2 => ?_)
  · rw [if_pos c2] at H
    refine j_sub (lv' := [(0, vr a0)]) [0] rfl ?_
    exact tX12_middle_21   a0 h1  H
  · rw [if_neg c2] at H
    refine j_iload_n (i := 1) (pc' := 10) dX12_middle_9 rfl rfl 1 rfl ?_
    refine j_aload_n (i := 0) (pc' := 11) dX12_middle_10 rfl rfl 0 rfl ?_
    refine j_aload_n (i := 0) (pc' := 12) dX12_middle_11 rfl rfl 0 rfl ?_
    obtain ⟨v3, e3, H⟩ := bs H
    refine j_getR (pc' := 15) dX12_middle_12 rfl fl_X12_26 e3 (fun r3 => ?_)
    obtain ⟨u4, e4, H⟩ := bs H
    obtain ⟨p5, e5, H⟩ := bs H
    refine j_cVi (y := yX12_heaps) (dY := 2) (vs := [vr v3]) (st := [vi a1]) (q := a0) (pc' := 18) dX12_middle_15 rfl ymX12_heaps yvX12_heaps ml_X12_133 (by decide) rfl (Nat.le_of_ble_eq_true rfl) (Nat.le_of_ble_eq_true rfl) e4 (tX12_heaps a0 v3 h1 e5) (fun r5 z5 => ?_)
    refine j_icmp_lt (tgt := 27) (pc' := 21) dX12_middle_18 (by decide) rfl ra1 r5 (fun c6 => ?_) (fun c6 => ?_)
    · rw [if_pos c6] at H
      refine j_aload_n (i := 0) (pc' := 28) dX12_middle_27 rfl rfl 0 rfl ?_
      obtain ⟨u7, e7, H⟩ := bs H
      obtain ⟨h8, e8, H⟩ := bs H
      refine j_cVv (y := yX12_useWays) (dY := 1) (vs := []) (st := []) (q := a0) (pc' := 31) dX12_middle_28 rfl ymX12_useWays yvX12_useWays ml_X12_160 (by decide) rfl (Nat.le_of_ble_eq_true rfl) (Nat.le_of_ble_eq_true rfl) e7 (tX12_useWays a0 p5.2 e8) (fun z8 => ?_)
      refine j_aload_n (i := 0) (pc' := 32) dX12_middle_31 rfl rfl 0 rfl ?_
      refine j_aload_n (i := 0) (pc' := 33) dX12_middle_32 rfl rfl 0 rfl ?_
      obtain ⟨v9, e9, H⟩ := bs H
      refine j_getR (pc' := 36) dX12_middle_33 rfl fl_X12_26 e9 (fun r9 => ?_)
      refine j_iload_n (i := 1) (pc' := 37) dX12_middle_36 rfl rfl 1 rfl ?_
      obtain ⟨u10, e10, H⟩ := bs H
      obtain ⟨p11, e11, H⟩ := bs H
      refine j_cVi (y := yX12_middleOf) (dY := 3) (vs := [vr v9, vi a1]) (st := []) (q := a0) (pc' := 40) dX12_middle_37 rfl ymX12_middleOf yvX12_middleOf ml_X12_137 (by decide) rfl (Nat.le_of_ble_eq_true rfl) (Nat.le_of_ble_eq_true rfl) e10 (tX12_middleOf a0 v9 a1 h8 ra1 e11) (fun r11 z11 => ?_)
      obtain rfl := Option.some.inj H
      exact j_iret dX12_middle_40 r11 ⟨rfl, rfl⟩
    · rw [if_neg c6] at H
      refine j_sub (lv' := [(0, vr a0)]) [0] rfl ?_
      exact tX12_middle_21   a0 p5.2  H
-- X12_search
noncomputable def fX12_search_132 (x4 : Int) (h : Hp) : Option (Int × Hp) :=
  some (x4, h)
theorem tX12_search_132 {L : Nat} {xs : Nat → Int32} {l : Launch} {res : Int × Hp} (x4 : Int) (h : Hp) (rx4 : R64 x4) (H : fX12_search_132 x4 h = some res) : J L xs l RX12 cX12_search 11 false 5 (QL res) 0 0 132 [(4, vl x4)] [] h := by
  unfold fX12_search_132 at H
  refine j_lload (pc' := 134) dX12_search_132 rfl 0 rfl ?_
  obtain rfl := Option.some.inj H
  exact j_lret dX12_search_134 rx4 ⟨rfl, rfl⟩
noncomputable def fX12_search_123 (k34 : Nat → Int → Int → Int → Int → Int → Hp → Option (Int × Hp)) (x0 : Nat) (x1 : Int) (x2 : Int) (x3 : Int) (x4 : Int) (h : Hp) : Option (Int × Hp) :=
  (cob h 11 x0).bind fun _ => (fX12_next x0 h).bind fun p2 => k34 x0 x1 x2 x3 x4 p2.1 p2.2
theorem tX12_search_123 {L : Nat} {xs : Nat → Int32} {l : Launch} {res : Int × Hp} (k34 : Nat → Int → Int → Int → Int → Int → Hp → Option (Int × Hp)) (hk34 : ∀ (x0 : Nat) (x1 : Int) (x2 : Int) (x3 : Int) (x4 : Int) (x6 : Int) (h : Hp), R32 x1 → R32 x2 → R32 x3 → R64 x4 → R32 x6 → k34 x0 x1 x2 x3 x4 x6 h = some res → J L xs l RX12 cX12_search 11 false 5 (QL res) 0 0 34 [(0, vr x0), (1, vi x1), (2, vi x2), (3, vi x3), (4, vl x4), (6, vi x6)] [] h) (x0 : Nat) (x1 : Int) (x2 : Int) (x3 : Int) (x4 : Int) (h : Hp) (rx1 : R32 x1) (rx2 : R32 x2) (rx3 : R32 x3) (rx4 : R64 x4) (H : fX12_search_123 k34 x0 x1 x2 x3 x4 h = some res) : J L xs l RX12 cX12_search 11 false 5 (QL res) 0 0 123 [(0, vr x0), (1, vi x1), (2, vi x2), (3, vi x3), (4, vl x4)] [] h := by
  unfold fX12_search_123 at H
  refine j_aload_n (i := 0) (pc' := 124) dX12_search_123 rfl rfl 0 rfl ?_
  obtain ⟨u1, e1, H⟩ := bs H
  obtain ⟨p2, e2, H⟩ := bs H
  refine j_cVb (y := yX12_next) (dY := 2) (vs := []) (st := []) (q := x0) (pc' := 127) dX12_search_124 rfl ymX12_next yvX12_next ml_X12_169 (by decide) rfl (Nat.le_of_ble_eq_true rfl) (Nat.le_of_ble_eq_true rfl) e1 (tX12_next x0 h e2) (fun r2 b2 z2 => ?_)
  refine j_istore (lv' := [(0, vr x0), (1, vi x1), (2, vi x2), (3, vi x3), (4, vl x4), (6, vi p2.1)]) (pc' := 129) dX12_search_127 rfl (by decide) [1, 2, 3, 4, 5, 0] rfl ?_
  refine j_goto (tgt := 34) dX12_search_129 (by decide) ?_
  exact hk34 x0 x1 x2 x3 x4 p2.1 p2.2 rx1 rx2 rx3 rx4 r2 H
noncomputable def fX12_search_94 (k34 : Nat → Int → Int → Int → Int → Int → Hp → Option (Int × Hp)) : Nat → Nat → Int → Int → Int → Int → Int → Hp → Option (Int × Hp)
  | 0, _, _, _, _, _, _, _ => none
  | n + 1, x0, x1, x2, x3, x4, x10, h => (cob h 11 x0).bind fun _ => (fX12_n x0 h).bind fun p2 => if p2.1 ≤ x10 then (fX12_search_123 k34 x0 x1 x2 x3 x4 p2.2) else ((getR p2.2 11 x0 21).bind fun v4 => (getR p2.2 11 x0 20).bind fun v5 => (ald p2.2 0 v5 x10).bind fun v6 => (ast p2.2 0 v4 x10 v6).bind fun h7 => (c32 (x10 + 1)).bind fun _ => fX12_search_94 k34 n x0 x1 x2 x3 x4 (x10 + 1) h7)
theorem tX12_search_94 {L : Nat} {xs : Nat → Int32} {l : Launch} {res : Int × Hp} (k34 : Nat → Int → Int → Int → Int → Int → Hp → Option (Int × Hp)) (hk34 : ∀ (x0 : Nat) (x1 : Int) (x2 : Int) (x3 : Int) (x4 : Int) (x6 : Int) (h : Hp), R32 x1 → R32 x2 → R32 x3 → R64 x4 → R32 x6 → k34 x0 x1 x2 x3 x4 x6 h = some res → J L xs l RX12 cX12_search 11 false 5 (QL res) 0 0 34 [(0, vr x0), (1, vi x1), (2, vi x2), (3, vi x3), (4, vl x4), (6, vi x6)] [] h) : ∀ (n : Nat) (x0 : Nat) (x1 : Int) (x2 : Int) (x3 : Int) (x4 : Int) (x10 : Int) (h : Hp), R32 x1 → R32 x2 → R32 x3 → R64 x4 → R32 x10 → fX12_search_94 k34 n x0 x1 x2 x3 x4 x10 h = some res → J L xs l RX12 cX12_search 11 false 5 (QL res) 0 0 94 [(0, vr x0), (1, vi x1), (2, vi x2), (3, vi x3), (4, vl x4), (10, vi x10)] [] h := by
  intro n
  induction n with
  | zero => intro x0 x1 x2 x3 x4 x10 h rx1 rx2 rx3 rx4 rx10 H; cases H
  | succ n ih =>
    intro x0 x1 x2 x3 x4 x10 h rx1 rx2 rx3 rx4 rx10 H
    rw [fX12_search_94] at H
    refine j_iload (pc' := 96) dX12_search_94 rfl 5 rfl ?_
    refine j_aload_n (i := 0) (pc' := 97) dX12_search_96 rfl rfl 0 rfl ?_
    obtain ⟨u1, e1, H⟩ := bs H
    obtain ⟨p2, e2, H⟩ := bs H
    refine j_cVi (y := yX12_n) (dY := 1) (vs := []) (st := [vi x10]) (q := x0) (pc' := 100) dX12_search_97 rfl ymX12_n yvX12_n ml_X12_90 (by decide) rfl (Nat.le_of_ble_eq_true rfl) (Nat.le_of_ble_eq_true rfl) e1 (tX12_n x0 h e2) (fun r2 z2 => ?_)
    refine j_icmp_ge (tgt := 123) (pc' := 103) dX12_search_100 (by decide) rfl rx10 r2 (fun c3 => ?_) (fun c3 => ?_)
    · rw [if_pos c3] at H
      refine j_sub (lv' := [(0, vr x0), (1, vi x1), (2, vi x2), (3, vi x3), (4, vl x4)]) [0, 1, 2, 3, 4] rfl ?_
      exact tX12_search_123 _ hk34 x0 x1 x2 x3 x4 p2.2 rx1 rx2 rx3 rx4 H
    · rw [if_neg c3] at H
      refine j_aload_n (i := 0) (pc' := 104) dX12_search_103 rfl rfl 0 rfl ?_
      obtain ⟨v4, e4, H⟩ := bs H
      refine j_getR (pc' := 107) dX12_search_104 rfl fl_X12_61 e4 (fun r4 => ?_)
      refine j_iload (pc' := 109) dX12_search_107 rfl 5 rfl ?_
      refine j_aload_n (i := 0) (pc' := 110) dX12_search_109 rfl rfl 0 rfl ?_
      obtain ⟨v5, e5, H⟩ := bs H
      refine j_getR (pc' := 113) dX12_search_110 rfl fl_X12_58 e5 (fun r5 => ?_)
      refine j_iload (pc' := 115) dX12_search_113 rfl 5 rfl ?_
      obtain ⟨v6, e6, H⟩ := bs H
      refine j_iald (pc' := 116) dX12_search_115 rfl e6 (fun r6 => ?_)
      obtain ⟨h7, e7, H⟩ := bs H
      refine j_iast (pc' := 117) dX12_search_116 rfl r6 e7 ?_
      obtain ⟨u8, e8, H⟩ := bs H
      have r8 := c32_R e8
      refine j_iinc (k0 := 5) (lv' := [(0, vr x0), (1, vi x1), (2, vi x2), (3, vi x3), (4, vl x4), (10, vi (x10 + 1))]) (pc' := 120) dX12_search_117 rfl rfl (by decide) [1, 2, 3, 4, 5, 0] rfl ?_
      refine j_goto (tgt := 94) dX12_search_120 (by decide) ?_
      exact ih x0 x1 x2 x3 x4 (x10 + 1) h7 rx1 rx2 rx3 rx4 r8 H
noncomputable def fX12_search_87 (k34 : Nat → Int → Int → Int → Int → Int → Hp → Option (Int × Hp)) (x0 : Nat) (x1 : Int) (x2 : Int) (x3 : Int) (x8 : Int) (h : Hp) : Option (Int × Hp) :=
  fX12_search_94 k34 FU x0 x1 x2 x3 x8 0 h
theorem tX12_search_87 {L : Nat} {xs : Nat → Int32} {l : Launch} {res : Int × Hp} (k34 : Nat → Int → Int → Int → Int → Int → Hp → Option (Int × Hp)) (hk34 : ∀ (x0 : Nat) (x1 : Int) (x2 : Int) (x3 : Int) (x4 : Int) (x6 : Int) (h : Hp), R32 x1 → R32 x2 → R32 x3 → R64 x4 → R32 x6 → k34 x0 x1 x2 x3 x4 x6 h = some res → J L xs l RX12 cX12_search 11 false 5 (QL res) 0 0 34 [(0, vr x0), (1, vi x1), (2, vi x2), (3, vi x3), (4, vl x4), (6, vi x6)] [] h) (x0 : Nat) (x1 : Int) (x2 : Int) (x3 : Int) (x8 : Int) (h : Hp) (rx1 : R32 x1) (rx2 : R32 x2) (rx3 : R32 x3) (rx8 : R64 x8) (H : fX12_search_87 k34 x0 x1 x2 x3 x8 h = some res) : J L xs l RX12 cX12_search 11 false 5 (QL res) 0 0 87 [(0, vr x0), (1, vi x1), (2, vi x2), (3, vi x3), (8, vl x8)] [] h := by
  unfold fX12_search_87 at H
  refine j_lload (pc' := 89) dX12_search_87 rfl 4 rfl ?_
  refine j_lstore (lv' := [(0, vr x0), (1, vi x1), (2, vi x2), (3, vi x3), (4, vl x8), (8, vl x8)]) (pc' := 91) dX12_search_89 rfl (by decide) [1, 2, 3, 4, 0, 5] rfl ?_
  refine j_iconst (pc' := 92) dX12_search_91 rfl ?_
  refine j_istore (lv' := [(0, vr x0), (1, vi x1), (2, vi x2), (3, vi x3), (4, vl x8), (8, vl x8), (10, vi 0)]) (pc' := 94) dX12_search_92 rfl (by decide) [1, 2, 3, 4, 5, 6, 0] rfl ?_
  refine j_sub (lv' := [(0, vr x0), (1, vi x1), (2, vi x2), (3, vi x3), (4, vl x8), (10, vi 0)]) [0, 1, 2, 3, 4, 6] rfl ?_
  exact tX12_search_94 _ hk34 FU x0 x1 x2 x3 x8 0 h rx1 rx2 rx3 rx8 ⟨by decide, by decide⟩ H
noncomputable def fX12_search_34 : Nat → Nat → Int → Int → Int → Int → Int → Hp → Option (Int × Hp)
  | 0, _, _, _, _, _, _, _ => none
  | n + 1, x0, x1, x2, x3, x4, x6, h => if x6 = 0 then (fX12_search_132 x4 h) else ((getR h 11 x0 20).bind fun v2 => (cob h 11 x0).bind fun _ => (fX12_heaps x0 v2 h).bind fun p4 => if p4.1 < x2 then (fX12_search_123 (fX12_search_34 n) x0 x1 x2 x3 x4 p4.2) else (if x3 < p4.1 then (fX12_search_123 (fX12_search_34 n) x0 x1 x2 x3 x4 p4.2) else ((getR p4.2 11 x0 20).bind fun v7 => (cob p4.2 11 x0).bind fun _ => (fX12_costOf x0 v7 x1 p4.2).bind fun p9 => if (lCmp x4 0) < 0 then (fX12_search_87 (fX12_search_34 n) x0 x1 x2 x3 p9.1 p9.2) else (if 0 ≤ (lCmp p9.1 x4) then (fX12_search_123 (fX12_search_34 n) x0 x1 x2 x3 x4 p9.2) else (fX12_search_87 (fX12_search_34 n) x0 x1 x2 x3 p9.1 p9.2)))))
theorem tX12_search_34 {L : Nat} {xs : Nat → Int32} {l : Launch} {res : Int × Hp} : ∀ (n : Nat) (x0 : Nat) (x1 : Int) (x2 : Int) (x3 : Int) (x4 : Int) (x6 : Int) (h : Hp), R32 x1 → R32 x2 → R32 x3 → R64 x4 → R32 x6 → fX12_search_34 n x0 x1 x2 x3 x4 x6 h = some res → J L xs l RX12 cX12_search 11 false 5 (QL res) 0 0 34 [(0, vr x0), (1, vi x1), (2, vi x2), (3, vi x3), (4, vl x4), (6, vi x6)] [] h := by
  intro n
  induction n with
  | zero => intro x0 x1 x2 x3 x4 x6 h rx1 rx2 rx3 rx4 rx6 H; cases H
  | succ n ih =>
    intro x0 x1 x2 x3 x4 x6 h rx1 rx2 rx3 rx4 rx6 H
    rw [fX12_search_34] at H
    refine j_iload (pc' := 36) dX12_search_34 rfl 5 rfl ?_
    refine j_if_eq (tgt := 132) (pc' := 39) dX12_search_36 (by decide) rfl rx6 (fun c1 => ?_) (fun c1 => ?_)
    · rw [if_pos c1] at H
      refine j_sub (lv' := [(4, vl x4)]) [4] rfl ?_
      exact tX12_search_132   x4 h rx4 H
    · rw [if_neg c1] at H
      refine j_aload_n (i := 0) (pc' := 40) dX12_search_39 rfl rfl 0 rfl ?_
      refine j_aload_n (i := 0) (pc' := 41) dX12_search_40 rfl rfl 0 rfl ?_
      obtain ⟨v2, e2, H⟩ := bs H
      refine j_getR (pc' := 44) dX12_search_41 rfl fl_X12_58 e2 (fun r2 => ?_)
      obtain ⟨u3, e3, H⟩ := bs H
      obtain ⟨p4, e4, H⟩ := bs H
      refine j_cVi (y := yX12_heaps) (dY := 2) (vs := [vr v2]) (st := []) (q := x0) (pc' := 47) dX12_search_44 rfl ymX12_heaps yvX12_heaps ml_X12_133 (by decide) rfl (Nat.le_of_ble_eq_true rfl) (Nat.le_of_ble_eq_true rfl) e3 (tX12_heaps x0 v2 h e4) (fun r4 z4 => ?_)
      refine j_istore (lv' := [(0, vr x0), (1, vi x1), (2, vi x2), (3, vi x3), (4, vl x4), (6, vi x6), (7, vi p4.1)]) (pc' := 49) dX12_search_47 rfl (by decide) [1, 2, 3, 4, 5, 6, 0] rfl ?_
      refine j_iload (pc' := 51) dX12_search_49 rfl 6 rfl ?_
      refine j_iload_n (i := 2) (pc' := 52) dX12_search_51 rfl rfl 2 rfl ?_
      refine j_icmp_lt (tgt := 123) (pc' := 55) dX12_search_52 (by decide) rfl r4 rx2 (fun c5 => ?_) (fun c5 => ?_)
      · rw [if_pos c5] at H
        refine j_sub (lv' := [(0, vr x0), (1, vi x1), (2, vi x2), (3, vi x3), (4, vl x4)]) [0, 1, 2, 3, 4] rfl ?_
        exact tX12_search_123 _ ih x0 x1 x2 x3 x4 p4.2 rx1 rx2 rx3 rx4 H
      · rw [if_neg c5] at H
        refine j_iload (pc' := 57) dX12_search_55 rfl 6 rfl ?_
        refine j_iload_n (i := 3) (pc' := 58) dX12_search_57 rfl rfl 3 rfl ?_
        refine j_icmp_gt (tgt := 123) (pc' := 61) dX12_search_58 (by decide) rfl r4 rx3 (fun c6 => ?_) (fun c6 => ?_)
        · rw [if_pos c6] at H
          refine j_sub (lv' := [(0, vr x0), (1, vi x1), (2, vi x2), (3, vi x3), (4, vl x4)]) [0, 1, 2, 3, 4] rfl ?_
          exact tX12_search_123 _ ih x0 x1 x2 x3 x4 p4.2 rx1 rx2 rx3 rx4 H
        · rw [if_neg c6] at H
          refine j_aload_n (i := 0) (pc' := 62) dX12_search_61 rfl rfl 0 rfl ?_
          refine j_aload_n (i := 0) (pc' := 63) dX12_search_62 rfl rfl 0 rfl ?_
          obtain ⟨v7, e7, H⟩ := bs H
          refine j_getR (pc' := 66) dX12_search_63 rfl fl_X12_58 e7 (fun r7 => ?_)
          refine j_iload_n (i := 1) (pc' := 67) dX12_search_66 rfl rfl 1 rfl ?_
          obtain ⟨u8, e8, H⟩ := bs H
          obtain ⟨p9, e9, H⟩ := bs H
          refine j_cVl (y := yX12_costOf) (dY := 4) (vs := [vr v7, vi x1]) (st := []) (q := x0) (pc' := 70) dX12_search_67 rfl ymX12_costOf yvX12_costOf ml_X12_163 (by decide) rfl (Nat.le_of_ble_eq_true rfl) (Nat.le_of_ble_eq_true rfl) e8 (tX12_costOf x0 v7 x1 p4.2 rx1 e9) (fun r9 z9 => ?_)
          refine j_lstore (lv' := [(0, vr x0), (1, vi x1), (2, vi x2), (3, vi x3), (4, vl x4), (6, vi x6), (7, vi p4.1), (8, vl p9.1)]) (pc' := 72) dX12_search_70 rfl (by decide) [1, 2, 3, 4, 5, 6, 7, 0] rfl ?_
          refine j_lload (pc' := 74) dX12_search_72 rfl 4 rfl ?_
          refine j_lconst (z := 0) (pc' := 75) dX12_search_74 rfl rfl ?_
          refine j_lcmp (pc' := 76) dX12_search_75 rfl rx4 ⟨by decide, by decide⟩ ?_
          refine j_if_lt (tgt := 87) (pc' := 79) dX12_search_76 (by decide) rfl (R32_lcmp _ _) (fun c10 => ?_) (fun c10 => ?_)
          · rw [if_pos c10] at H
            refine j_sub (lv' := [(0, vr x0), (1, vi x1), (2, vi x2), (3, vi x3), (8, vl p9.1)]) [0, 1, 2, 3, 7] rfl ?_
            exact tX12_search_87 _ ih x0 x1 x2 x3 p9.1 p9.2 rx1 rx2 rx3 r9 H
          · rw [if_neg c10] at H
            refine j_lload (pc' := 81) dX12_search_79 rfl 7 rfl ?_
            refine j_lload (pc' := 83) dX12_search_81 rfl 4 rfl ?_
            refine j_lcmp (pc' := 84) dX12_search_83 rfl r9 rx4 ?_
            refine j_if_ge (tgt := 123) (pc' := 87) dX12_search_84 (by decide) rfl (R32_lcmp _ _) (fun c11 => ?_) (fun c11 => ?_)
            · rw [if_pos c11] at H
              refine j_sub (lv' := [(0, vr x0), (1, vi x1), (2, vi x2), (3, vi x3), (4, vl x4)]) [0, 1, 2, 3, 4] rfl ?_
              exact tX12_search_123 _ ih x0 x1 x2 x3 x4 p9.2 rx1 rx2 rx3 rx4 H
            · rw [if_neg c11] at H
              refine j_sub (lv' := [(0, vr x0), (1, vi x1), (2, vi x2), (3, vi x3), (8, vl p9.1)]) [0, 1, 2, 3, 7] rfl ?_
              exact tX12_search_87 _ ih x0 x1 x2 x3 p9.1 p9.2 rx1 rx2 rx3 r9 H
noncomputable def fX12_search_26 (x0 : Nat) (x1 : Int) (x2 : Int) (x3 : Int) (h : Hp) : Option (Int × Hp) :=
  fX12_search_34 FU x0 x1 x2 x3 (-1) 1 h
theorem tX12_search_26 {L : Nat} {xs : Nat → Int32} {l : Launch} {res : Int × Hp} (x0 : Nat) (x1 : Int) (x2 : Int) (x3 : Int) (h : Hp) (rx1 : R32 x1) (rx2 : R32 x2) (rx3 : R32 x3) (H : fX12_search_26 x0 x1 x2 x3 h = some res) : J L xs l RX12 cX12_search 11 false 5 (QL res) 0 0 26 [(0, vr x0), (1, vi x1), (2, vi x2), (3, vi x3)] [] h := by
  unfold fX12_search_26 at H
  refine j_ldc2 (z := (-1)) (pc' := 29) dX12_search_26 rfl kk_X12_167 (by decide +kernel) ?_
  refine j_lstore (lv' := [(0, vr x0), (1, vi x1), (2, vi x2), (3, vi x3), (4, vl (-1))]) (pc' := 31) dX12_search_29 rfl (by decide) [1, 2, 3, 4, 0] rfl ?_
  refine j_iconst (pc' := 32) dX12_search_31 rfl ?_
  refine j_istore (lv' := [(0, vr x0), (1, vi x1), (2, vi x2), (3, vi x3), (4, vl (-1)), (6, vi 1)]) (pc' := 34) dX12_search_32 rfl (by decide) [1, 2, 3, 4, 5, 0] rfl ?_
  exact tX12_search_34   FU x0 x1 x2 x3 (-1) 1 h rx1 rx2 rx3 ⟨by decide, by decide⟩ ⟨by decide, by decide⟩ H
noncomputable def fX12_search_3 : Nat → Nat → Int → Int → Int → Int → Hp → Option (Int × Hp)
  | 0, _, _, _, _, _, _ => none
  | n + 1, x0, x1, x2, x3, x4, h => (cob h 11 x0).bind fun _ => (fX12_n x0 h).bind fun p2 => if p2.1 ≤ x4 then (fX12_search_26 x0 x1 x2 x3 p2.2) else ((getR p2.2 11 x0 20).bind fun v4 => (ast p2.2 0 v4 x4 0).bind fun h5 => (c32 (x4 + 1)).bind fun _ => fX12_search_3 n x0 x1 x2 x3 (x4 + 1) h5)
theorem tX12_search_3 {L : Nat} {xs : Nat → Int32} {l : Launch} {res : Int × Hp} : ∀ (n : Nat) (x0 : Nat) (x1 : Int) (x2 : Int) (x3 : Int) (x4 : Int) (h : Hp), R32 x1 → R32 x2 → R32 x3 → R32 x4 → fX12_search_3 n x0 x1 x2 x3 x4 h = some res → J L xs l RX12 cX12_search 11 false 5 (QL res) 0 0 3 [(0, vr x0), (1, vi x1), (2, vi x2), (3, vi x3), (4, vi x4)] [] h := by
  intro n
  induction n with
  | zero => intro x0 x1 x2 x3 x4 h rx1 rx2 rx3 rx4 H; cases H
  | succ n ih =>
    intro x0 x1 x2 x3 x4 h rx1 rx2 rx3 rx4 H
    rw [fX12_search_3] at H
    refine j_iload (pc' := 5) dX12_search_3 rfl 4 rfl ?_
    refine j_aload_n (i := 0) (pc' := 6) dX12_search_5 rfl rfl 0 rfl ?_
    obtain ⟨u1, e1, H⟩ := bs H
    obtain ⟨p2, e2, H⟩ := bs H
    refine j_cVi (y := yX12_n) (dY := 1) (vs := []) (st := [vi x4]) (q := x0) (pc' := 9) dX12_search_6 rfl ymX12_n yvX12_n ml_X12_90 (by decide) rfl (Nat.le_of_ble_eq_true rfl) (Nat.le_of_ble_eq_true rfl) e1 (tX12_n x0 h e2) (fun r2 z2 => ?_)
    refine j_icmp_ge (tgt := 26) (pc' := 12) dX12_search_9 (by decide) rfl rx4 r2 (fun c3 => ?_) (fun c3 => ?_)
    · rw [if_pos c3] at H
      refine j_sub (lv' := [(0, vr x0), (1, vi x1), (2, vi x2), (3, vi x3)]) [0, 1, 2, 3] rfl ?_
      exact tX12_search_26   x0 x1 x2 x3 p2.2 rx1 rx2 rx3 H
    · rw [if_neg c3] at H
      refine j_aload_n (i := 0) (pc' := 13) dX12_search_12 rfl rfl 0 rfl ?_
      obtain ⟨v4, e4, H⟩ := bs H
      refine j_getR (pc' := 16) dX12_search_13 rfl fl_X12_58 e4 (fun r4 => ?_)
      refine j_iload (pc' := 18) dX12_search_16 rfl 4 rfl ?_
      refine j_iconst (pc' := 19) dX12_search_18 rfl ?_
      obtain ⟨h5, e5, H⟩ := bs H
      refine j_iast (pc' := 20) dX12_search_19 rfl ⟨by decide, by decide⟩ e5 ?_
      obtain ⟨u6, e6, H⟩ := bs H
      have r6 := c32_R e6
      refine j_iinc (k0 := 4) (lv' := [(0, vr x0), (1, vi x1), (2, vi x2), (3, vi x3), (4, vi (x4 + 1))]) (pc' := 23) dX12_search_20 rfl rfl (by decide) [1, 2, 3, 4, 0] rfl ?_
      refine j_goto (tgt := 3) dX12_search_23 (by decide) ?_
      exact ih x0 x1 x2 x3 (x4 + 1) h5 rx1 rx2 rx3 r6 H
noncomputable def fX12_search (a0 : Nat) (a1 : Int) (a2 : Int) (a3 : Int) (h : Hp) : Option (Int × Hp) :=
  fX12_search_3 FU a0 a1 a2 a3 0 h
theorem tX12_search {L : Nat} {xs : Nat → Int32} {l : Launch} {res : Int × Hp} (a0 : Nat) (a1 : Int) (a2 : Int) (a3 : Int) (h : Hp) (ra1 : R32 a1) (ra2 : R32 a2) (ra3 : R32 a3) (H : fX12_search a0 a1 a2 a3 h = some res) : J L xs l RX12 cX12_search 11 false 5 (QL res) 0 0 0 (alv 0 [vr a0, vi a1, vi a2, vi a3]) [] h := by
  unfold fX12_search at H
  show J L xs l RX12 cX12_search 11 false 5 (QL res) 0 0 0 [(0, vr a0), (1, vi a1), (2, vi a2), (3, vi a3)] [] h
  refine j_iconst (pc' := 1) dX12_search_0 rfl ?_
  refine j_istore (lv' := [(0, vr a0), (1, vi a1), (2, vi a2), (3, vi a3), (4, vi 0)]) (pc' := 3) dX12_search_1 rfl (by decide) [1, 2, 3, 4, 0] rfl ?_
  exact tX12_search_3   FU a0 a1 a2 a3 0 h ra1 ra2 ra3 ⟨by decide, by decide⟩ H
-- X12_best
noncomputable def fX12_best_24 (x0 : Nat) (h : Hp) : Option (Int × Hp) :=
  (cob h 11 x0).bind fun _ => (fX12_no x0 1 h).bind fun p2 => some (p2.1, p2.2)
theorem tX12_best_24 {L : Nat} {xs : Nat → Int32} {l : Launch} {res : Int × Hp} (x0 : Nat) (h : Hp)  (H : fX12_best_24 x0 h = some res) : J L xs l RX12 cX12_best 5 false 6 (QL res) 0 0 24 [(0, vr x0)] [] h := by
  unfold fX12_best_24 at H
  refine j_aload_n (i := 0) (pc' := 25) dX12_best_24 rfl rfl 0 rfl ?_
  refine j_iconst (pc' := 26) dX12_best_25 rfl ?_
  obtain ⟨u1, e1, H⟩ := bs H
  obtain ⟨p2, e2, H⟩ := bs H
  refine j_cVi (y := yX12_no) (dY := 1) (vs := [vi 1]) (st := []) (q := x0) (pc' := 29) dX12_best_26 rfl ymX12_no yvX12_no ml_X12_98 (by decide) rfl (Nat.le_of_ble_eq_true rfl) (Nat.le_of_ble_eq_true rfl) e1 (tX12_no x0 1 h ⟨by decide, by decide⟩ e2) (fun r2 z2 => ?_)
  refine j_i2l (pc' := 30) dX12_best_29 rfl r2 ?_
  obtain rfl := Option.some.inj H
  exact j_lret dX12_best_30 (R32_l r2) ⟨rfl, rfl⟩
noncomputable def fX12_best_78 (x0 : Nat) (s0 : Int) (s1 : Int) (s2 : Int) (s3 : Nat) (h : Hp) : Option (Int × Hp) :=
  (cob h 11 s3).bind fun _ => (fX12_search s3 s2 s1 s0 h).bind fun p2 => (getR p2.2 11 x0 21).bind fun v3 => (cob p2.2 11 x0).bind fun _ => (fX12_become x0 v3 p2.2).bind fun h5 => some (p2.1, h5)
theorem tX12_best_78 {L : Nat} {xs : Nat → Int32} {l : Launch} {res : Int × Hp} (x0 : Nat) (s0 : Int) (s1 : Int) (s2 : Int) (s3 : Nat) (h : Hp) (rs0 : R32 s0) (rs1 : R32 s1) (rs2 : R32 s2) (H : fX12_best_78 x0 s0 s1 s2 s3 h = some res) : J L xs l RX12 cX12_best 5 false 6 (QL res) 0 0 78 [(0, vr x0)] [vi s0, vi s1, vi s2, vr s3] h := by
  unfold fX12_best_78 at H
  obtain ⟨u1, e1, H⟩ := bs H
  obtain ⟨p2, e2, H⟩ := bs H
  refine j_cVl (y := yX12_search) (dY := 5) (vs := [vi s2, vi s1, vi s0]) (st := []) (q := s3) (pc' := 81) dX12_best_78 rfl ymX12_search yvX12_search ml_X12_173 (by decide) rfl (Nat.le_of_ble_eq_true rfl) (Nat.le_of_ble_eq_true rfl) e1 (tX12_search s3 s2 s1 s0 h rs2 rs1 rs0 e2) (fun r2 z2 => ?_)
  refine j_lstore_n (i := 3) (lv' := [(0, vr x0), (3, vl p2.1)]) (pc' := 82) dX12_best_81 rfl rfl (by decide) [1, 0] rfl ?_
  refine j_aload_n (i := 0) (pc' := 83) dX12_best_82 rfl rfl 0 rfl ?_
  refine j_aload_n (i := 0) (pc' := 84) dX12_best_83 rfl rfl 0 rfl ?_
  obtain ⟨v3, e3, H⟩ := bs H
  refine j_getR (pc' := 87) dX12_best_84 rfl fl_X12_61 e3 (fun r3 => ?_)
  obtain ⟨u4, e4, H⟩ := bs H
  obtain ⟨h5, e5, H⟩ := bs H
  refine j_cVv (y := yX12_become) (dY := 2) (vs := [vr v3]) (st := []) (q := x0) (pc' := 90) dX12_best_87 rfl ymX12_become yvX12_become ml_X12_150 (by decide) rfl (Nat.le_of_ble_eq_true rfl) (Nat.le_of_ble_eq_true rfl) e4 (tX12_become x0 v3 p2.2 e5) (fun z5 => ?_)
  refine j_lload_n (i := 3) (pc' := 91) dX12_best_90 rfl rfl 1 rfl ?_
  obtain rfl := Option.some.inj H
  exact j_lret dX12_best_91 r2 ⟨rfl, rfl⟩
noncomputable def fX12_best_66 (x0 : Nat) (x2 : Int) (s0 : Int) (s1 : Int) (s2 : Nat) (h : Hp) : Option (Int × Hp) :=
  if x2 = 0 then ((cob h 11 x0).bind fun _ => (fX12_n x0 h).bind fun p3 => fX12_best_78 x0 p3.1 s0 s1 s2 p3.2) else (fX12_best_78 x0 x2 s0 s1 s2 h)
theorem tX12_best_66 {L : Nat} {xs : Nat → Int32} {l : Launch} {res : Int × Hp} (x0 : Nat) (x2 : Int) (s0 : Int) (s1 : Int) (s2 : Nat) (h : Hp) (rx2 : R32 x2) (rs0 : R32 s0) (rs1 : R32 s1) (H : fX12_best_66 x0 x2 s0 s1 s2 h = some res) : J L xs l RX12 cX12_best 5 false 6 (QL res) 0 0 66 [(0, vr x0), (2, vi x2)] [vi s0, vi s1, vr s2] h := by
  unfold fX12_best_66 at H
  refine j_iload_n (i := 2) (pc' := 67) dX12_best_66 rfl rfl 1 rfl ?_
  refine j_if_ne (tgt := 77) (pc' := 70) dX12_best_67 (by decide) rfl rx2 (fun c1 => ?_) (fun c1 => ?_)
  · rw [if_neg c1] at H
    refine j_iload_n (i := 2) (pc' := 78) dX12_best_77 rfl rfl 1 rfl ?_
    refine j_sub (lv' := [(0, vr x0)]) [0] rfl ?_
    exact tX12_best_78   x0 x2 s0 s1 s2 h rx2 rs0 rs1 H
  · rw [if_pos c1] at H
    refine j_aload_n (i := 0) (pc' := 71) dX12_best_70 rfl rfl 0 rfl ?_
    obtain ⟨u2, e2, H⟩ := bs H
    obtain ⟨p3, e3, H⟩ := bs H
    refine j_cVi (y := yX12_n) (dY := 1) (vs := []) (st := [vi s0, vi s1, vr s2]) (q := x0) (pc' := 74) dX12_best_71 rfl ymX12_n yvX12_n ml_X12_90 (by decide) rfl (Nat.le_of_ble_eq_true rfl) (Nat.le_of_ble_eq_true rfl) e2 (tX12_n x0 h e3) (fun r3 z3 => ?_)
    refine j_goto (tgt := 78) dX12_best_74 (by decide) ?_
    refine j_sub (lv' := [(0, vr x0)]) [0] rfl ?_
    exact tX12_best_78   x0 p3.1 s0 s1 s2 p3.2 r3 rs0 rs1 H
noncomputable def fX12_best (a0 : Nat) (a1 : Int) (a2 : Int) (h : Hp) : Option (Int × Hp) :=
  (putV h 11 a0 19 (vi 0)).bind fun h1 => (fX12_isGoal a1 h1).bind fun p2 => if p2.1 = 0 then (fX12_best_24 a0 p2.2) else (if a2 < 0 then (fX12_best_24 a0 p2.2) else ((cob p2.2 11 a0).bind fun _ => (fX12_n a0 p2.2).bind fun p6 => if a2 ≤ p6.1 then ((cob p6.2 11 a0).bind fun _ => (fX12_n a0 p6.2).bind fun p9 => if p9.1 ≤ 9 then ((cob p9.2 11 a0).bind fun _ => (fX12_change a0 p9.2).bind fun h12 => (cob h12 11 a0).bind fun _ => (fX12_useWays a0 h12).bind fun h14 => if a2 = 0 then (fX12_best_66 a0 a2 1 a1 a0 h14) else (fX12_best_66 a0 a2 a2 a1 a0 h14)) else ((cob p9.2 11 a0).bind fun _ => (fX12_no a0 3 p9.2).bind fun p17 => some (p17.1, p17.2))) else (fX12_best_24 a0 p6.2)))
theorem tX12_best {L : Nat} {xs : Nat → Int32} {l : Launch} {res : Int × Hp} (a0 : Nat) (a1 : Int) (a2 : Int) (h : Hp) (ra1 : R32 a1) (ra2 : R32 a2) (H : fX12_best a0 a1 a2 h = some res) : J L xs l RX12 cX12_best 5 false 6 (QL res) 0 0 0 (alv 0 [vr a0, vi a1, vi a2]) [] h := by
  unfold fX12_best at H
  show J L xs l RX12 cX12_best 5 false 6 (QL res) 0 0 0 [(0, vr a0), (1, vi a1), (2, vi a2)] [] h
  refine j_aload_n (i := 0) (pc' := 1) dX12_best_0 rfl rfl 0 rfl ?_
  refine j_iconst (pc' := 2) dX12_best_1 rfl ?_
  obtain ⟨h1, e1, H⟩ := bs H
  refine j_putV (pc' := 5) dX12_best_2 rfl fp_X12_77 tI ⟨by decide, by decide⟩ e1 ?_
  refine j_iload_n (i := 1) (pc' := 6) dX12_best_5 rfl rfl 1 rfl ?_
  obtain ⟨p2, e2, H⟩ := bs H
  refine j_cSb (y := yX12_isGoal) (dY := 1) (vs := [vi a1]) (st := []) (pc' := 9) dX12_best_6 rfl ymX12_isGoal ysX12_isGoal ml_X12_157 (by decide) rfl (Nat.le_of_ble_eq_true rfl) (Nat.le_of_ble_eq_true rfl) (tX12_isGoal a1 h1 ra1 e2) (fun r2 b2 z2 => ?_)
  refine j_if_eq (tgt := 24) (pc' := 12) dX12_best_9 (by decide) rfl r2 (fun c3 => ?_) (fun c3 => ?_)
  · rw [if_pos c3] at H
    refine j_sub (lv' := [(0, vr a0)]) [0] rfl ?_
    exact tX12_best_24   a0 p2.2  H
  · rw [if_neg c3] at H
    refine j_iload_n (i := 2) (pc' := 13) dX12_best_12 rfl rfl 2 rfl ?_
    refine j_if_lt (tgt := 24) (pc' := 16) dX12_best_13 (by decide) rfl ra2 (fun c4 => ?_) (fun c4 => ?_)
    · rw [if_pos c4] at H
      refine j_sub (lv' := [(0, vr a0)]) [0] rfl ?_
      exact tX12_best_24   a0 p2.2  H
    · rw [if_neg c4] at H
      refine j_iload_n (i := 2) (pc' := 17) dX12_best_16 rfl rfl 2 rfl ?_
      refine j_aload_n (i := 0) (pc' := 18) dX12_best_17 rfl rfl 0 rfl ?_
      obtain ⟨u5, e5, H⟩ := bs H
      obtain ⟨p6, e6, H⟩ := bs H
      refine j_cVi (y := yX12_n) (dY := 1) (vs := []) (st := [vi a2]) (q := a0) (pc' := 21) dX12_best_18 rfl ymX12_n yvX12_n ml_X12_90 (by decide) rfl (Nat.le_of_ble_eq_true rfl) (Nat.le_of_ble_eq_true rfl) e5 (tX12_n a0 p2.2 e6) (fun r6 z6 => ?_)
      refine j_icmp_le (tgt := 31) (pc' := 24) dX12_best_21 (by decide) rfl ra2 r6 (fun c7 => ?_) (fun c7 => ?_)
      · rw [if_pos c7] at H
        refine j_aload_n (i := 0) (pc' := 32) dX12_best_31 rfl rfl 0 rfl ?_
        obtain ⟨u8, e8, H⟩ := bs H
        obtain ⟨p9, e9, H⟩ := bs H
        refine j_cVi (y := yX12_n) (dY := 1) (vs := []) (st := []) (q := a0) (pc' := 35) dX12_best_32 rfl ymX12_n yvX12_n ml_X12_90 (by decide) rfl (Nat.le_of_ble_eq_true rfl) (Nat.le_of_ble_eq_true rfl) e8 (tX12_n a0 p6.2 e9) (fun r9 z9 => ?_)
        refine j_bipush (pc' := 37) dX12_best_35 rfl (by decide +kernel) ?_
        refine j_icmp_le (tgt := 47) (pc' := 40) dX12_best_37 (by decide) rfl r9 ⟨by decide, by decide⟩ (fun c10 => ?_) (fun c10 => ?_)
        · rw [if_pos c10] at H
          refine j_aload_n (i := 0) (pc' := 48) dX12_best_47 rfl rfl 0 rfl ?_
          obtain ⟨u11, e11, H⟩ := bs H
          obtain ⟨h12, e12, H⟩ := bs H
          refine j_cVv (y := yX12_change) (dY := 2) (vs := []) (st := []) (q := a0) (pc' := 51) dX12_best_48 rfl ymX12_change yvX12_change ml_X12_102 (by decide) rfl (Nat.le_of_ble_eq_true rfl) (Nat.le_of_ble_eq_true rfl) e11 (tX12_change a0 p9.2 e12) (fun z12 => ?_)
          refine j_aload_n (i := 0) (pc' := 52) dX12_best_51 rfl rfl 0 rfl ?_
          obtain ⟨u13, e13, H⟩ := bs H
          obtain ⟨h14, e14, H⟩ := bs H
          refine j_cVv (y := yX12_useWays) (dY := 1) (vs := []) (st := []) (q := a0) (pc' := 55) dX12_best_52 rfl ymX12_useWays yvX12_useWays ml_X12_160 (by decide) rfl (Nat.le_of_ble_eq_true rfl) (Nat.le_of_ble_eq_true rfl) e13 (tX12_useWays a0 h12 e14) (fun z14 => ?_)
          refine j_aload_n (i := 0) (pc' := 56) dX12_best_55 rfl rfl 0 rfl ?_
          refine j_iload_n (i := 1) (pc' := 57) dX12_best_56 rfl rfl 1 rfl ?_
          refine j_iload_n (i := 2) (pc' := 58) dX12_best_57 rfl rfl 2 rfl ?_
          refine j_if_ne (tgt := 65) (pc' := 61) dX12_best_58 (by decide) rfl ra2 (fun c15 => ?_) (fun c15 => ?_)
          · rw [if_neg c15] at H
            refine j_iload_n (i := 2) (pc' := 66) dX12_best_65 rfl rfl 2 rfl ?_
            refine j_sub (lv' := [(0, vr a0), (2, vi a2)]) [0, 2] rfl ?_
            exact tX12_best_66   a0 a2 a2 a1 a0 h14 ra2 ra2 ra1 H
          · rw [if_pos c15] at H
            refine j_iconst (pc' := 62) dX12_best_61 rfl ?_
            refine j_goto (tgt := 66) dX12_best_62 (by decide) ?_
            refine j_sub (lv' := [(0, vr a0), (2, vi a2)]) [0, 2] rfl ?_
            exact tX12_best_66   a0 a2 1 a1 a0 h14 ra2 ⟨by decide, by decide⟩ ra1 H
        · rw [if_neg c10] at H
          refine j_aload_n (i := 0) (pc' := 41) dX12_best_40 rfl rfl 0 rfl ?_
          refine j_iconst (pc' := 42) dX12_best_41 rfl ?_
          obtain ⟨u16, e16, H⟩ := bs H
          obtain ⟨p17, e17, H⟩ := bs H
          refine j_cVi (y := yX12_no) (dY := 1) (vs := [vi 3]) (st := []) (q := a0) (pc' := 45) dX12_best_42 rfl ymX12_no yvX12_no ml_X12_98 (by decide) rfl (Nat.le_of_ble_eq_true rfl) (Nat.le_of_ble_eq_true rfl) e16 (tX12_no a0 3 p9.2 ⟨by decide, by decide⟩ e17) (fun r17 z17 => ?_)
          refine j_i2l (pc' := 46) dX12_best_45 rfl r17 ?_
          obtain rfl := Option.some.inj H
          exact j_lret dX12_best_46 (R32_l r17) ⟨rfl, rfl⟩
      · rw [if_neg c7] at H
        refine j_sub (lv' := [(0, vr a0)]) [0] rfl ?_
        exact tX12_best_24   a0 p6.2  H
-- X12_line
noncomputable def fX12_line_27 (x0 : Nat) (h : Hp) : Option (Int × Hp) :=
  (cob h 11 x0).bind fun _ => (fX12_no x0 1 h).bind fun p2 => some (p2.1, p2.2)
theorem tX12_line_27 {L : Nat} {xs : Nat → Int32} {l : Launch} {res : Int × Hp} (x0 : Nat) (h : Hp)  (H : fX12_line_27 x0 h = some res) : J L xs l RX12 cX12_line 10 false 5 (QL res) 0 0 27 [(0, vr x0)] [] h := by
  unfold fX12_line_27 at H
  refine j_aload_n (i := 0) (pc' := 28) dX12_line_27 rfl rfl 0 rfl ?_
  refine j_iconst (pc' := 29) dX12_line_28 rfl ?_
  obtain ⟨u1, e1, H⟩ := bs H
  obtain ⟨p2, e2, H⟩ := bs H
  refine j_cVi (y := yX12_no) (dY := 1) (vs := [vi 1]) (st := []) (q := x0) (pc' := 32) dX12_line_29 rfl ymX12_no yvX12_no ml_X12_98 (by decide) rfl (Nat.le_of_ble_eq_true rfl) (Nat.le_of_ble_eq_true rfl) e1 (tX12_no x0 1 h ⟨by decide, by decide⟩ e2) (fun r2 z2 => ?_)
  refine j_i2l (pc' := 33) dX12_line_32 rfl r2 ?_
  obtain rfl := Option.some.inj H
  exact j_lret dX12_line_33 (R32_l r2) ⟨rfl, rfl⟩
noncomputable def fX12_line_376 (x0 : Nat) (x3 : Int) (h : Hp) : Option (Int × Hp) :=
  (getR h 11 x0 21).bind fun v1 => (cob h 11 x0).bind fun _ => (fX12_become x0 v1 h).bind fun h3 => some (x3, h3)
theorem tX12_line_376 {L : Nat} {xs : Nat → Int32} {l : Launch} {res : Int × Hp} (x0 : Nat) (x3 : Int) (h : Hp) (rx3 : R64 x3) (H : fX12_line_376 x0 x3 h = some res) : J L xs l RX12 cX12_line 10 false 5 (QL res) 0 0 376 [(0, vr x0), (3, vl x3)] [] h := by
  unfold fX12_line_376 at H
  refine j_aload_n (i := 0) (pc' := 377) dX12_line_376 rfl rfl 0 rfl ?_
  refine j_aload_n (i := 0) (pc' := 378) dX12_line_377 rfl rfl 0 rfl ?_
  obtain ⟨v1, e1, H⟩ := bs H
  refine j_getR (pc' := 381) dX12_line_378 rfl fl_X12_61 e1 (fun r1 => ?_)
  obtain ⟨u2, e2, H⟩ := bs H
  obtain ⟨h3, e3, H⟩ := bs H
  refine j_cVv (y := yX12_become) (dY := 2) (vs := [vr v1]) (st := []) (q := x0) (pc' := 384) dX12_line_381 rfl ymX12_become yvX12_become ml_X12_150 (by decide) rfl (Nat.le_of_ble_eq_true rfl) (Nat.le_of_ble_eq_true rfl) e2 (tX12_become x0 v1 h e3) (fun z3 => ?_)
  refine j_lload_n (i := 3) (pc' := 385) dX12_line_384 rfl rfl 1 rfl ?_
  obtain rfl := Option.some.inj H
  exact j_lret dX12_line_385 rx3 ⟨rfl, rfl⟩
noncomputable def fX12_line_370 (k193 : Nat → Int → Int → Int → Int → Hp → Option (Int × Hp)) (x0 : Nat) (x1 : Int) (x2 : Int) (x3 : Int) (x5 : Int) (h : Hp) : Option (Int × Hp) :=
  (c32 (x5 + 1)).bind fun _ => k193 x0 x1 x2 x3 (x5 + 1) h
theorem tX12_line_370 {L : Nat} {xs : Nat → Int32} {l : Launch} {res : Int × Hp} (k193 : Nat → Int → Int → Int → Int → Hp → Option (Int × Hp)) (hk193 : ∀ (x0 : Nat) (x1 : Int) (x2 : Int) (x3 : Int) (x5 : Int) (h : Hp), R32 x1 → R32 x2 → R64 x3 → R32 x5 → k193 x0 x1 x2 x3 x5 h = some res → J L xs l RX12 cX12_line 10 false 5 (QL res) 0 0 193 [(0, vr x0), (1, vi x1), (2, vi x2), (3, vl x3), (5, vi x5)] [] h) (x0 : Nat) (x1 : Int) (x2 : Int) (x3 : Int) (x5 : Int) (h : Hp) (rx1 : R32 x1) (rx2 : R32 x2) (rx3 : R64 x3) (rx5 : R32 x5) (H : fX12_line_370 k193 x0 x1 x2 x3 x5 h = some res) : J L xs l RX12 cX12_line 10 false 5 (QL res) 0 0 370 [(0, vr x0), (1, vi x1), (2, vi x2), (3, vl x3), (5, vi x5)] [] h := by
  unfold fX12_line_370 at H
  obtain ⟨u1, e1, H⟩ := bs H
  have r1 := c32_R e1
  refine j_iinc (k0 := 4) (lv' := [(0, vr x0), (1, vi x1), (2, vi x2), (3, vl x3), (5, vi (x5 + 1))]) (pc' := 373) dX12_line_370 rfl rfl (by decide) [1, 2, 3, 4, 0] rfl ?_
  refine j_goto (tgt := 193) dX12_line_373 (by decide) ?_
  exact hk193 x0 x1 x2 x3 (x5 + 1) h rx1 rx2 rx3 r1 H
noncomputable def fX12_line_341 (k193 : Nat → Int → Int → Int → Int → Hp → Option (Int × Hp)) : Nat → Nat → Int → Int → Int → Int → Int → Hp → Option (Int × Hp)
  | 0, _, _, _, _, _, _, _ => none
  | n + 1, x0, x1, x2, x3, x5, x9, h => (cob h 11 x0).bind fun _ => (fX12_n x0 h).bind fun p2 => if p2.1 ≤ x9 then (fX12_line_370 k193 x0 x1 x2 x3 x5 p2.2) else ((getR p2.2 11 x0 21).bind fun v4 => (getR p2.2 11 x0 20).bind fun v5 => (ald p2.2 0 v5 x9).bind fun v6 => (ast p2.2 0 v4 x9 v6).bind fun h7 => (c32 (x9 + 1)).bind fun _ => fX12_line_341 k193 n x0 x1 x2 x3 x5 (x9 + 1) h7)
theorem tX12_line_341 {L : Nat} {xs : Nat → Int32} {l : Launch} {res : Int × Hp} (k193 : Nat → Int → Int → Int → Int → Hp → Option (Int × Hp)) (hk193 : ∀ (x0 : Nat) (x1 : Int) (x2 : Int) (x3 : Int) (x5 : Int) (h : Hp), R32 x1 → R32 x2 → R64 x3 → R32 x5 → k193 x0 x1 x2 x3 x5 h = some res → J L xs l RX12 cX12_line 10 false 5 (QL res) 0 0 193 [(0, vr x0), (1, vi x1), (2, vi x2), (3, vl x3), (5, vi x5)] [] h) : ∀ (n : Nat) (x0 : Nat) (x1 : Int) (x2 : Int) (x3 : Int) (x5 : Int) (x9 : Int) (h : Hp), R32 x1 → R32 x2 → R64 x3 → R32 x5 → R32 x9 → fX12_line_341 k193 n x0 x1 x2 x3 x5 x9 h = some res → J L xs l RX12 cX12_line 10 false 5 (QL res) 0 0 341 [(0, vr x0), (1, vi x1), (2, vi x2), (3, vl x3), (5, vi x5), (9, vi x9)] [] h := by
  intro n
  induction n with
  | zero => intro x0 x1 x2 x3 x5 x9 h rx1 rx2 rx3 rx5 rx9 H; cases H
  | succ n ih =>
    intro x0 x1 x2 x3 x5 x9 h rx1 rx2 rx3 rx5 rx9 H
    rw [fX12_line_341] at H
    refine j_iload (pc' := 343) dX12_line_341 rfl 5 rfl ?_
    refine j_aload_n (i := 0) (pc' := 344) dX12_line_343 rfl rfl 0 rfl ?_
    obtain ⟨u1, e1, H⟩ := bs H
    obtain ⟨p2, e2, H⟩ := bs H
    refine j_cVi (y := yX12_n) (dY := 1) (vs := []) (st := [vi x9]) (q := x0) (pc' := 347) dX12_line_344 rfl ymX12_n yvX12_n ml_X12_90 (by decide) rfl (Nat.le_of_ble_eq_true rfl) (Nat.le_of_ble_eq_true rfl) e1 (tX12_n x0 h e2) (fun r2 z2 => ?_)
    refine j_icmp_ge (tgt := 370) (pc' := 350) dX12_line_347 (by decide) rfl rx9 r2 (fun c3 => ?_) (fun c3 => ?_)
    · rw [if_pos c3] at H
      refine j_sub (lv' := [(0, vr x0), (1, vi x1), (2, vi x2), (3, vl x3), (5, vi x5)]) [0, 1, 2, 3, 4] rfl ?_
      exact tX12_line_370 _ hk193 x0 x1 x2 x3 x5 p2.2 rx1 rx2 rx3 rx5 H
    · rw [if_neg c3] at H
      refine j_aload_n (i := 0) (pc' := 351) dX12_line_350 rfl rfl 0 rfl ?_
      obtain ⟨v4, e4, H⟩ := bs H
      refine j_getR (pc' := 354) dX12_line_351 rfl fl_X12_61 e4 (fun r4 => ?_)
      refine j_iload (pc' := 356) dX12_line_354 rfl 5 rfl ?_
      refine j_aload_n (i := 0) (pc' := 357) dX12_line_356 rfl rfl 0 rfl ?_
      obtain ⟨v5, e5, H⟩ := bs H
      refine j_getR (pc' := 360) dX12_line_357 rfl fl_X12_58 e5 (fun r5 => ?_)
      refine j_iload (pc' := 362) dX12_line_360 rfl 5 rfl ?_
      obtain ⟨v6, e6, H⟩ := bs H
      refine j_iald (pc' := 363) dX12_line_362 rfl e6 (fun r6 => ?_)
      obtain ⟨h7, e7, H⟩ := bs H
      refine j_iast (pc' := 364) dX12_line_363 rfl r6 e7 ?_
      obtain ⟨u8, e8, H⟩ := bs H
      have r8 := c32_R e8
      refine j_iinc (k0 := 5) (lv' := [(0, vr x0), (1, vi x1), (2, vi x2), (3, vl x3), (5, vi x5), (9, vi (x9 + 1))]) (pc' := 367) dX12_line_364 rfl rfl (by decide) [1, 2, 3, 4, 5, 0] rfl ?_
      refine j_goto (tgt := 341) dX12_line_367 (by decide) ?_
      exact ih x0 x1 x2 x3 x5 (x9 + 1) h7 rx1 rx2 rx3 rx5 r8 H
noncomputable def fX12_line_335 (k193 : Nat → Int → Int → Int → Int → Hp → Option (Int × Hp)) (x0 : Nat) (x1 : Int) (x2 : Int) (x5 : Int) (x7 : Int) (h : Hp) : Option (Int × Hp) :=
  fX12_line_341 k193 FU x0 x1 x2 x7 x5 0 h
theorem tX12_line_335 {L : Nat} {xs : Nat → Int32} {l : Launch} {res : Int × Hp} (k193 : Nat → Int → Int → Int → Int → Hp → Option (Int × Hp)) (hk193 : ∀ (x0 : Nat) (x1 : Int) (x2 : Int) (x3 : Int) (x5 : Int) (h : Hp), R32 x1 → R32 x2 → R64 x3 → R32 x5 → k193 x0 x1 x2 x3 x5 h = some res → J L xs l RX12 cX12_line 10 false 5 (QL res) 0 0 193 [(0, vr x0), (1, vi x1), (2, vi x2), (3, vl x3), (5, vi x5)] [] h) (x0 : Nat) (x1 : Int) (x2 : Int) (x5 : Int) (x7 : Int) (h : Hp) (rx1 : R32 x1) (rx2 : R32 x2) (rx5 : R32 x5) (rx7 : R64 x7) (H : fX12_line_335 k193 x0 x1 x2 x5 x7 h = some res) : J L xs l RX12 cX12_line 10 false 5 (QL res) 0 0 335 [(0, vr x0), (1, vi x1), (2, vi x2), (5, vi x5), (7, vl x7)] [] h := by
  unfold fX12_line_335 at H
  refine j_lload (pc' := 337) dX12_line_335 rfl 4 rfl ?_
  refine j_lstore_n (i := 3) (lv' := [(0, vr x0), (1, vi x1), (2, vi x2), (3, vl x7), (5, vi x5), (7, vl x7)]) (pc' := 338) dX12_line_337 rfl rfl (by decide) [1, 2, 3, 0, 4, 5] rfl ?_
  refine j_iconst (pc' := 339) dX12_line_338 rfl ?_
  refine j_istore (lv' := [(0, vr x0), (1, vi x1), (2, vi x2), (3, vl x7), (5, vi x5), (7, vl x7), (9, vi 0)]) (pc' := 341) dX12_line_339 rfl (by decide) [1, 2, 3, 4, 5, 6, 0] rfl ?_
  refine j_sub (lv' := [(0, vr x0), (1, vi x1), (2, vi x2), (3, vl x7), (5, vi x5), (9, vi 0)]) [0, 1, 2, 3, 4, 6] rfl ?_
  exact tX12_line_341 _ hk193 FU x0 x1 x2 x7 x5 0 h rx1 rx2 rx7 rx5 ⟨by decide, by decide⟩ H
noncomputable def fX12_line_280 (k193 : Nat → Int → Int → Int → Int → Hp → Option (Int × Hp)) (x0 : Nat) (x1 : Int) (x2 : Int) (x3 : Int) (x5 : Int) (h : Hp) : Option (Int × Hp) :=
  (getR h 11 x0 20).bind fun v1 => (cob h 11 x0).bind fun _ => (fX12_number x0 v1 h).bind fun p3 => (getR p3.2 11 x0 20).bind fun v4 => (cob p3.2 11 x0).bind fun _ => (fX12_costOf x0 v4 x1 p3.2).bind fun p6 => if (lCmp x3 0) < 0 then (fX12_line_335 k193 x0 x1 x2 x5 p6.1 p6.2) else (if (lCmp p6.1 x3) < 0 then (fX12_line_335 k193 x0 x1 x2 x5 p6.1 p6.2) else (if (lCmp p6.1 x3) = 0 then ((getR p6.2 11 x0 20).bind fun v10 => (getR p6.2 11 x0 21).bind fun v11 => (cob p6.2 11 x0).bind fun _ => (fX12_isAhead x0 v10 v11 p6.2).bind fun p13 => if p13.1 = 0 then (fX12_line_370 k193 x0 x1 x2 x3 x5 p13.2) else (fX12_line_335 k193 x0 x1 x2 x5 p6.1 p13.2)) else (fX12_line_370 k193 x0 x1 x2 x3 x5 p6.2)))
theorem tX12_line_280 {L : Nat} {xs : Nat → Int32} {l : Launch} {res : Int × Hp} (k193 : Nat → Int → Int → Int → Int → Hp → Option (Int × Hp)) (hk193 : ∀ (x0 : Nat) (x1 : Int) (x2 : Int) (x3 : Int) (x5 : Int) (h : Hp), R32 x1 → R32 x2 → R64 x3 → R32 x5 → k193 x0 x1 x2 x3 x5 h = some res → J L xs l RX12 cX12_line 10 false 5 (QL res) 0 0 193 [(0, vr x0), (1, vi x1), (2, vi x2), (3, vl x3), (5, vi x5)] [] h) (x0 : Nat) (x1 : Int) (x2 : Int) (x3 : Int) (x5 : Int) (h : Hp) (rx1 : R32 x1) (rx2 : R32 x2) (rx3 : R64 x3) (rx5 : R32 x5) (H : fX12_line_280 k193 x0 x1 x2 x3 x5 h = some res) : J L xs l RX12 cX12_line 10 false 5 (QL res) 0 0 280 [(0, vr x0), (1, vi x1), (2, vi x2), (3, vl x3), (5, vi x5)] [] h := by
  unfold fX12_line_280 at H
  refine j_aload_n (i := 0) (pc' := 281) dX12_line_280 rfl rfl 0 rfl ?_
  refine j_aload_n (i := 0) (pc' := 282) dX12_line_281 rfl rfl 0 rfl ?_
  obtain ⟨v1, e1, H⟩ := bs H
  refine j_getR (pc' := 285) dX12_line_282 rfl fl_X12_58 e1 (fun r1 => ?_)
  obtain ⟨u2, e2, H⟩ := bs H
  obtain ⟨p3, e3, H⟩ := bs H
  refine j_cVi (y := yX12_number) (dY := 2) (vs := [vr v1]) (st := []) (q := x0) (pc' := 288) dX12_line_285 rfl ymX12_number yvX12_number ml_X12_147 (by decide) rfl (Nat.le_of_ble_eq_true rfl) (Nat.le_of_ble_eq_true rfl) e2 (tX12_number x0 v1 h e3) (fun r3 z3 => ?_)
  refine j_pop (pc' := 289) dX12_line_288 rfl rfl ?_
  refine j_aload_n (i := 0) (pc' := 290) dX12_line_289 rfl rfl 0 rfl ?_
  refine j_aload_n (i := 0) (pc' := 291) dX12_line_290 rfl rfl 0 rfl ?_
  obtain ⟨v4, e4, H⟩ := bs H
  refine j_getR (pc' := 294) dX12_line_291 rfl fl_X12_58 e4 (fun r4 => ?_)
  refine j_iload_n (i := 1) (pc' := 295) dX12_line_294 rfl rfl 1 rfl ?_
  obtain ⟨u5, e5, H⟩ := bs H
  obtain ⟨p6, e6, H⟩ := bs H
  refine j_cVl (y := yX12_costOf) (dY := 4) (vs := [vr v4, vi x1]) (st := []) (q := x0) (pc' := 298) dX12_line_295 rfl ymX12_costOf yvX12_costOf ml_X12_163 (by decide) rfl (Nat.le_of_ble_eq_true rfl) (Nat.le_of_ble_eq_true rfl) e5 (tX12_costOf x0 v4 x1 p3.2 rx1 e6) (fun r6 z6 => ?_)
  refine j_lstore (lv' := [(0, vr x0), (1, vi x1), (2, vi x2), (3, vl x3), (5, vi x5), (7, vl p6.1)]) (pc' := 300) dX12_line_298 rfl (by decide) [1, 2, 3, 4, 5, 0] rfl ?_
  refine j_lload_n (i := 3) (pc' := 301) dX12_line_300 rfl rfl 3 rfl ?_
  refine j_lconst (z := 0) (pc' := 302) dX12_line_301 rfl rfl ?_
  refine j_lcmp (pc' := 303) dX12_line_302 rfl rx3 ⟨by decide, by decide⟩ ?_
  refine j_if_lt (tgt := 335) (pc' := 306) dX12_line_303 (by decide) rfl (R32_lcmp _ _) (fun c7 => ?_) (fun c7 => ?_)
  · rw [if_pos c7] at H
    refine j_sub (lv' := [(0, vr x0), (1, vi x1), (2, vi x2), (5, vi x5), (7, vl p6.1)]) [0, 1, 2, 4, 5] rfl ?_
    exact tX12_line_335 _ hk193 x0 x1 x2 x5 p6.1 p6.2 rx1 rx2 rx5 r6 H
  · rw [if_neg c7] at H
    refine j_lload (pc' := 308) dX12_line_306 rfl 5 rfl ?_
    refine j_lload_n (i := 3) (pc' := 309) dX12_line_308 rfl rfl 3 rfl ?_
    refine j_lcmp (pc' := 310) dX12_line_309 rfl r6 rx3 ?_
    refine j_if_lt (tgt := 335) (pc' := 313) dX12_line_310 (by decide) rfl (R32_lcmp _ _) (fun c8 => ?_) (fun c8 => ?_)
    · rw [if_pos c8] at H
      refine j_sub (lv' := [(0, vr x0), (1, vi x1), (2, vi x2), (5, vi x5), (7, vl p6.1)]) [0, 1, 2, 4, 5] rfl ?_
      exact tX12_line_335 _ hk193 x0 x1 x2 x5 p6.1 p6.2 rx1 rx2 rx5 r6 H
    · rw [if_neg c8] at H
      refine j_lload (pc' := 315) dX12_line_313 rfl 5 rfl ?_
      refine j_lload_n (i := 3) (pc' := 316) dX12_line_315 rfl rfl 3 rfl ?_
      refine j_lcmp (pc' := 317) dX12_line_316 rfl r6 rx3 ?_
      refine j_if_ne (tgt := 370) (pc' := 320) dX12_line_317 (by decide) rfl (R32_lcmp _ _) (fun c9 => ?_) (fun c9 => ?_)
      · rw [if_neg c9] at H
        refine j_sub (lv' := [(0, vr x0), (1, vi x1), (2, vi x2), (3, vl x3), (5, vi x5)]) [0, 1, 2, 3, 4] rfl ?_
        exact tX12_line_370 _ hk193 x0 x1 x2 x3 x5 p6.2 rx1 rx2 rx3 rx5 H
      · rw [if_pos c9] at H
        refine j_aload_n (i := 0) (pc' := 321) dX12_line_320 rfl rfl 0 rfl ?_
        refine j_aload_n (i := 0) (pc' := 322) dX12_line_321 rfl rfl 0 rfl ?_
        obtain ⟨v10, e10, H⟩ := bs H
        refine j_getR (pc' := 325) dX12_line_322 rfl fl_X12_58 e10 (fun r10 => ?_)
        refine j_aload_n (i := 0) (pc' := 326) dX12_line_325 rfl rfl 0 rfl ?_
        obtain ⟨v11, e11, H⟩ := bs H
        refine j_getR (pc' := 329) dX12_line_326 rfl fl_X12_61 e11 (fun r11 => ?_)
        obtain ⟨u12, e12, H⟩ := bs H
        obtain ⟨p13, e13, H⟩ := bs H
        refine j_cVb (y := yX12_isAhead) (dY := 2) (vs := [vr v10, vr v11]) (st := []) (q := x0) (pc' := 332) dX12_line_329 rfl ymX12_isAhead yvX12_isAhead ml_X12_182 (by decide) rfl (Nat.le_of_ble_eq_true rfl) (Nat.le_of_ble_eq_true rfl) e12 (tX12_isAhead x0 v10 v11 p6.2 e13) (fun r13 b13 z13 => ?_)
        refine j_if_eq (tgt := 370) (pc' := 335) dX12_line_332 (by decide) rfl r13 (fun c14 => ?_) (fun c14 => ?_)
        · rw [if_pos c14] at H
          refine j_sub (lv' := [(0, vr x0), (1, vi x1), (2, vi x2), (3, vl x3), (5, vi x5)]) [0, 1, 2, 3, 4] rfl ?_
          exact tX12_line_370 _ hk193 x0 x1 x2 x3 x5 p13.2 rx1 rx2 rx3 rx5 H
        · rw [if_neg c14] at H
          refine j_sub (lv' := [(0, vr x0), (1, vi x1), (2, vi x2), (5, vi x5), (7, vl p6.1)]) [0, 1, 2, 4, 5] rfl ?_
          exact tX12_line_335 _ hk193 x0 x1 x2 x5 p6.1 p13.2 rx1 rx2 rx5 r6 H
noncomputable def fX12_line_274 (k193 : Nat → Int → Int → Int → Int → Hp → Option (Int × Hp)) (k226 : Nat → Int → Int → Int → Int → Int → Int → Hp → Option (Int × Hp)) (x0 : Nat) (x1 : Int) (x2 : Int) (x3 : Int) (x5 : Int) (x6 : Int) (x7 : Int) (h : Hp) : Option (Int × Hp) :=
  (c32 (x7 + 1)).bind fun _ => k226 x0 x1 x2 x3 x5 x6 (x7 + 1) h
theorem tX12_line_274 {L : Nat} {xs : Nat → Int32} {l : Launch} {res : Int × Hp} (k193 : Nat → Int → Int → Int → Int → Hp → Option (Int × Hp)) (k226 : Nat → Int → Int → Int → Int → Int → Int → Hp → Option (Int × Hp)) (hk193 : ∀ (x0 : Nat) (x1 : Int) (x2 : Int) (x3 : Int) (x5 : Int) (h : Hp), R32 x1 → R32 x2 → R64 x3 → R32 x5 → k193 x0 x1 x2 x3 x5 h = some res → J L xs l RX12 cX12_line 10 false 5 (QL res) 0 0 193 [(0, vr x0), (1, vi x1), (2, vi x2), (3, vl x3), (5, vi x5)] [] h) (hk226 : ∀ (x0 : Nat) (x1 : Int) (x2 : Int) (x3 : Int) (x5 : Int) (x6 : Int) (x7 : Int) (h : Hp), R32 x1 → R32 x2 → R64 x3 → R32 x5 → R32 x6 → R32 x7 → k226 x0 x1 x2 x3 x5 x6 x7 h = some res → J L xs l RX12 cX12_line 10 false 5 (QL res) 0 0 226 [(0, vr x0), (1, vi x1), (2, vi x2), (3, vl x3), (5, vi x5), (6, vi x6), (7, vi x7)] [] h) (x0 : Nat) (x1 : Int) (x2 : Int) (x3 : Int) (x5 : Int) (x6 : Int) (x7 : Int) (h : Hp) (rx1 : R32 x1) (rx2 : R32 x2) (rx3 : R64 x3) (rx5 : R32 x5) (rx6 : R32 x6) (rx7 : R32 x7) (H : fX12_line_274 k193 k226 x0 x1 x2 x3 x5 x6 x7 h = some res) : J L xs l RX12 cX12_line 10 false 5 (QL res) 0 0 274 [(0, vr x0), (1, vi x1), (2, vi x2), (3, vl x3), (5, vi x5), (6, vi x6), (7, vi x7)] [] h := by
  unfold fX12_line_274 at H
  obtain ⟨u1, e1, H⟩ := bs H
  have r1 := c32_R e1
  refine j_iinc (k0 := 6) (lv' := [(0, vr x0), (1, vi x1), (2, vi x2), (3, vl x3), (5, vi x5), (6, vi x6), (7, vi (x7 + 1))]) (pc' := 277) dX12_line_274 rfl rfl (by decide) [1, 2, 3, 4, 5, 6, 0] rfl ?_
  refine j_goto (tgt := 226) dX12_line_277 (by decide) ?_
  exact hk226 x0 x1 x2 x3 x5 x6 (x7 + 1) h rx1 rx2 rx3 rx5 rx6 r1 H
noncomputable def fX12_line_226 (k193 : Nat → Int → Int → Int → Int → Hp → Option (Int × Hp)) : Nat → Nat → Int → Int → Int → Int → Int → Int → Hp → Option (Int × Hp)
  | 0, _, _, _, _, _, _, _, _ => none
  | n + 1, x0, x1, x2, x3, x5, x6, x7, h => (cob h 11 x0).bind fun _ => (fX12_n x0 h).bind fun p2 => if p2.1 ≤ x7 then (fX12_line_280 k193 x0 x1 x2 x3 x5 p2.2) else ((getR p2.2 11 x0 20).bind fun v4 => (getR p2.2 11 x0 24).bind fun v5 => (ald p2.2 0 v5 x7).bind fun v6 => (ast p2.2 0 v4 v6 x6).bind fun h7 => (cob h7 11 x0).bind fun _ => (fX12_n x0 h7).bind fun p9 => (c32 (p9.1 - 1)).bind fun _ => if (p9.1 - 1) ≤ x7 then (fX12_line_274 k193 (fX12_line_226 k193 n) x0 x1 x2 x3 x5 x6 x7 p9.2) else (if (bAnd (bShr x5 x7) 1) = 1 then ((c32 (x6 + 1)).bind fun _ => fX12_line_274 k193 (fX12_line_226 k193 n) x0 x1 x2 x3 x5 (x6 + 1) x7 p9.2) else (fX12_line_274 k193 (fX12_line_226 k193 n) x0 x1 x2 x3 x5 x6 x7 p9.2)))
theorem tX12_line_226 {L : Nat} {xs : Nat → Int32} {l : Launch} {res : Int × Hp} (k193 : Nat → Int → Int → Int → Int → Hp → Option (Int × Hp)) (hk193 : ∀ (x0 : Nat) (x1 : Int) (x2 : Int) (x3 : Int) (x5 : Int) (h : Hp), R32 x1 → R32 x2 → R64 x3 → R32 x5 → k193 x0 x1 x2 x3 x5 h = some res → J L xs l RX12 cX12_line 10 false 5 (QL res) 0 0 193 [(0, vr x0), (1, vi x1), (2, vi x2), (3, vl x3), (5, vi x5)] [] h) : ∀ (n : Nat) (x0 : Nat) (x1 : Int) (x2 : Int) (x3 : Int) (x5 : Int) (x6 : Int) (x7 : Int) (h : Hp), R32 x1 → R32 x2 → R64 x3 → R32 x5 → R32 x6 → R32 x7 → fX12_line_226 k193 n x0 x1 x2 x3 x5 x6 x7 h = some res → J L xs l RX12 cX12_line 10 false 5 (QL res) 0 0 226 [(0, vr x0), (1, vi x1), (2, vi x2), (3, vl x3), (5, vi x5), (6, vi x6), (7, vi x7)] [] h := by
  intro n
  induction n with
  | zero => intro x0 x1 x2 x3 x5 x6 x7 h rx1 rx2 rx3 rx5 rx6 rx7 H; cases H
  | succ n ih =>
    intro x0 x1 x2 x3 x5 x6 x7 h rx1 rx2 rx3 rx5 rx6 rx7 H
    rw [fX12_line_226] at H
    refine j_iload (pc' := 228) dX12_line_226 rfl 6 rfl ?_
    refine j_aload_n (i := 0) (pc' := 229) dX12_line_228 rfl rfl 0 rfl ?_
    obtain ⟨u1, e1, H⟩ := bs H
    obtain ⟨p2, e2, H⟩ := bs H
    refine j_cVi (y := yX12_n) (dY := 1) (vs := []) (st := [vi x7]) (q := x0) (pc' := 232) dX12_line_229 rfl ymX12_n yvX12_n ml_X12_90 (by decide) rfl (Nat.le_of_ble_eq_true rfl) (Nat.le_of_ble_eq_true rfl) e1 (tX12_n x0 h e2) (fun r2 z2 => ?_)
    refine j_icmp_ge (tgt := 280) (pc' := 235) dX12_line_232 (by decide) rfl rx7 r2 (fun c3 => ?_) (fun c3 => ?_)
    · rw [if_pos c3] at H
      refine j_sub (lv' := [(0, vr x0), (1, vi x1), (2, vi x2), (3, vl x3), (5, vi x5)]) [0, 1, 2, 3, 4] rfl ?_
      exact tX12_line_280 _ hk193 x0 x1 x2 x3 x5 p2.2 rx1 rx2 rx3 rx5 H
    · rw [if_neg c3] at H
      refine j_aload_n (i := 0) (pc' := 236) dX12_line_235 rfl rfl 0 rfl ?_
      obtain ⟨v4, e4, H⟩ := bs H
      refine j_getR (pc' := 239) dX12_line_236 rfl fl_X12_58 e4 (fun r4 => ?_)
      refine j_aload_n (i := 0) (pc' := 240) dX12_line_239 rfl rfl 0 rfl ?_
      obtain ⟨v5, e5, H⟩ := bs H
      refine j_getR (pc' := 243) dX12_line_240 rfl fl_X12_70 e5 (fun r5 => ?_)
      refine j_iload (pc' := 245) dX12_line_243 rfl 6 rfl ?_
      obtain ⟨v6, e6, H⟩ := bs H
      refine j_iald (pc' := 246) dX12_line_245 rfl e6 (fun r6 => ?_)
      refine j_iload (pc' := 248) dX12_line_246 rfl 5 rfl ?_
      obtain ⟨h7, e7, H⟩ := bs H
      refine j_iast (pc' := 249) dX12_line_248 rfl rx6 e7 ?_
      refine j_iload (pc' := 251) dX12_line_249 rfl 6 rfl ?_
      refine j_aload_n (i := 0) (pc' := 252) dX12_line_251 rfl rfl 0 rfl ?_
      obtain ⟨u8, e8, H⟩ := bs H
      obtain ⟨p9, e9, H⟩ := bs H
      refine j_cVi (y := yX12_n) (dY := 1) (vs := []) (st := [vi x7]) (q := x0) (pc' := 255) dX12_line_252 rfl ymX12_n yvX12_n ml_X12_90 (by decide) rfl (Nat.le_of_ble_eq_true rfl) (Nat.le_of_ble_eq_true rfl) e8 (tX12_n x0 h7 e9) (fun r9 z9 => ?_)
      refine j_iconst (pc' := 256) dX12_line_255 rfl ?_
      refine j_isub (pc' := 257) dX12_line_256 rfl ?_
      obtain ⟨u10, e10, H⟩ := bs H
      have r10 := c32_R e10
      refine j_icmp_ge (tgt := 274) (pc' := 260) dX12_line_257 (by decide) rfl rx7 r10 (fun c11 => ?_) (fun c11 => ?_)
      · rw [if_pos c11] at H
        exact tX12_line_274 _ _ hk193 ih x0 x1 x2 x3 x5 x6 x7 p9.2 rx1 rx2 rx3 rx5 rx6 rx7 H
      · rw [if_neg c11] at H
        refine j_iload (pc' := 262) dX12_line_260 rfl 4 rfl ?_
        refine j_iload (pc' := 264) dX12_line_262 rfl 6 rfl ?_
        refine j_ishr (pc' := 265) dX12_line_264 rfl ?_
        refine j_iconst (pc' := 266) dX12_line_265 rfl ?_
        refine j_iand (pc' := 267) dX12_line_266 rfl ?_
        refine j_iconst (pc' := 268) dX12_line_267 rfl ?_
        refine j_icmp_ne (tgt := 274) (pc' := 271) dX12_line_268 (by decide) rfl (R32_to _) ⟨by decide, by decide⟩ (fun c12 => ?_) (fun c12 => ?_)
        · rw [if_neg c12] at H
          exact tX12_line_274 _ _ hk193 ih x0 x1 x2 x3 x5 x6 x7 p9.2 rx1 rx2 rx3 rx5 rx6 rx7 H
        · rw [if_pos c12] at H
          obtain ⟨u13, e13, H⟩ := bs H
          have r13 := c32_R e13
          refine j_iinc (k0 := 5) (lv' := [(0, vr x0), (1, vi x1), (2, vi x2), (3, vl x3), (5, vi x5), (6, vi (x6 + 1)), (7, vi x7)]) (pc' := 274) dX12_line_271 rfl rfl (by decide) [1, 2, 3, 4, 5, 0, 6] rfl ?_
          exact tX12_line_274 _ _ hk193 ih x0 x1 x2 x3 x5 (x6 + 1) x7 p9.2 rx1 rx2 rx3 rx5 r13 rx7 H
noncomputable def fX12_line_193 : Nat → Nat → Int → Int → Int → Int → Hp → Option (Int × Hp)
  | 0, _, _, _, _, _, _ => none
  | n + 1, x0, x1, x2, x3, x5, h => (cob h 11 x0).bind fun _ => (fX12_n x0 h).bind fun p2 => if (bShl 1 (p2.1 - 1)) ≤ x5 then (fX12_line_376 x0 x3 p2.2) else ((fJ6_bitCount_0f7a4 x5 p2.2).bind fun p4 => (c32 (x2 - 1)).bind fun _ => if p4.1 = (x2 - 1) then (fX12_line_226 (fX12_line_193 n) FU x0 x1 x2 x3 x5 0 0 p4.2) else (fX12_line_370 (fX12_line_193 n) x0 x1 x2 x3 x5 p4.2))
theorem tX12_line_193 {L : Nat} {xs : Nat → Int32} {l : Launch} {res : Int × Hp} : ∀ (n : Nat) (x0 : Nat) (x1 : Int) (x2 : Int) (x3 : Int) (x5 : Int) (h : Hp), R32 x1 → R32 x2 → R64 x3 → R32 x5 → fX12_line_193 n x0 x1 x2 x3 x5 h = some res → J L xs l RX12 cX12_line 10 false 5 (QL res) 0 0 193 [(0, vr x0), (1, vi x1), (2, vi x2), (3, vl x3), (5, vi x5)] [] h := by
  intro n
  induction n with
  | zero => intro x0 x1 x2 x3 x5 h rx1 rx2 rx3 rx5 H; cases H
  | succ n ih =>
    intro x0 x1 x2 x3 x5 h rx1 rx2 rx3 rx5 H
    rw [fX12_line_193] at H
    refine j_iload (pc' := 195) dX12_line_193 rfl 4 rfl ?_
    refine j_iconst (pc' := 196) dX12_line_195 rfl ?_
    refine j_aload_n (i := 0) (pc' := 197) dX12_line_196 rfl rfl 0 rfl ?_
    obtain ⟨u1, e1, H⟩ := bs H
    obtain ⟨p2, e2, H⟩ := bs H
    refine j_cVi (y := yX12_n) (dY := 1) (vs := []) (st := [vi 1, vi x5]) (q := x0) (pc' := 200) dX12_line_197 rfl ymX12_n yvX12_n ml_X12_90 (by decide) rfl (Nat.le_of_ble_eq_true rfl) (Nat.le_of_ble_eq_true rfl) e1 (tX12_n x0 h e2) (fun r2 z2 => ?_)
    refine j_iconst (pc' := 201) dX12_line_200 rfl ?_
    refine j_isub (pc' := 202) dX12_line_201 rfl ?_
    refine j_ishl (pc' := 203) dX12_line_202 rfl ?_
    refine j_icmp_ge (tgt := 376) (pc' := 206) dX12_line_203 (by decide) rfl rx5 (R32_to _) (fun c3 => ?_) (fun c3 => ?_)
    · rw [if_pos c3] at H
      refine j_sub (lv' := [(0, vr x0), (3, vl x3)]) [0, 3] rfl ?_
      exact tX12_line_376   x0 x3 p2.2 rx3 H
    · rw [if_neg c3] at H
      refine j_iload (pc' := 208) dX12_line_206 rfl 4 rfl ?_
      obtain ⟨p4, e4, H⟩ := bs H
      refine j_cSi (y := yJ6_bitCount_0f7a4) (dY := 1) (vs := [vi x5]) (st := []) (pc' := 211) dX12_line_208 rfl ymJ6_bitCount_0f7a4 ysJ6_bitCount_0f7a4 ml_X12_177 (by decide) rfl (Nat.le_of_ble_eq_true rfl) (Nat.le_of_ble_eq_true rfl) (tJ6_bitCount_0f7a4 x5 p2.2 rx5 e4) (fun r4 z4 => ?_)
      refine j_iload_n (i := 2) (pc' := 212) dX12_line_211 rfl rfl 2 rfl ?_
      refine j_iconst (pc' := 213) dX12_line_212 rfl ?_
      refine j_isub (pc' := 214) dX12_line_213 rfl ?_
      obtain ⟨u5, e5, H⟩ := bs H
      have r5 := c32_R e5
      refine j_icmp_eq (tgt := 220) (pc' := 217) dX12_line_214 (by decide) rfl r4 r5 (fun c6 => ?_) (fun c6 => ?_)
      · rw [if_pos c6] at H
        refine j_iconst (pc' := 221) dX12_line_220 rfl ?_
        refine j_istore (lv' := [(0, vr x0), (1, vi x1), (2, vi x2), (3, vl x3), (5, vi x5), (6, vi 0)]) (pc' := 223) dX12_line_221 rfl (by decide) [1, 2, 3, 4, 5, 0] rfl ?_
        refine j_iconst (pc' := 224) dX12_line_223 rfl ?_
        refine j_istore (lv' := [(0, vr x0), (1, vi x1), (2, vi x2), (3, vl x3), (5, vi x5), (6, vi 0), (7, vi 0)]) (pc' := 226) dX12_line_224 rfl (by decide) [1, 2, 3, 4, 5, 6, 0] rfl ?_
        exact tX12_line_226 _ ih FU x0 x1 x2 x3 x5 0 0 p4.2 rx1 rx2 rx3 rx5 ⟨by decide, by decide⟩ ⟨by decide, by decide⟩ H
      · rw [if_neg c6] at H
        refine j_goto (tgt := 370) dX12_line_217 (by decide) ?_
        exact tX12_line_370 _ ih x0 x1 x2 x3 x5 p4.2 rx1 rx2 rx3 rx5 H
noncomputable def fX12_line_186 (x0 : Nat) (x1 : Int) (x2 : Int) (h : Hp) : Option (Int × Hp) :=
  fX12_line_193 FU x0 x1 x2 (-1) 0 h
theorem tX12_line_186 {L : Nat} {xs : Nat → Int32} {l : Launch} {res : Int × Hp} (x0 : Nat) (x1 : Int) (x2 : Int) (h : Hp) (rx1 : R32 x1) (rx2 : R32 x2) (H : fX12_line_186 x0 x1 x2 h = some res) : J L xs l RX12 cX12_line 10 false 5 (QL res) 0 0 186 [(0, vr x0), (1, vi x1), (2, vi x2)] [] h := by
  unfold fX12_line_186 at H
  refine j_ldc2 (z := (-1)) (pc' := 189) dX12_line_186 rfl kk_X12_167 (by decide +kernel) ?_
  refine j_lstore_n (i := 3) (lv' := [(0, vr x0), (1, vi x1), (2, vi x2), (3, vl (-1))]) (pc' := 190) dX12_line_189 rfl rfl (by decide) [1, 2, 3, 0] rfl ?_
  refine j_iconst (pc' := 191) dX12_line_190 rfl ?_
  refine j_istore (lv' := [(0, vr x0), (1, vi x1), (2, vi x2), (3, vl (-1)), (5, vi 0)]) (pc' := 193) dX12_line_191 rfl (by decide) [1, 2, 3, 4, 0] rfl ?_
  exact tX12_line_193   FU x0 x1 x2 (-1) 0 h rx1 rx2 ⟨by decide, by decide⟩ ⟨by decide, by decide⟩ H
noncomputable def fX12_line_172 (k107 : Nat → Int → Int → Int → Hp → Option (Int × Hp)) (x0 : Nat) (x1 : Int) (x2 : Int) (x3 : Int) (x4 : Int) (h : Hp) : Option (Int × Hp) :=
  (getR h 11 x0 24).bind fun v1 => (ast h 0 v1 x4 x3).bind fun h2 => (c32 (x3 + 1)).bind fun _ => k107 x0 x1 x2 (x3 + 1) h2
theorem tX12_line_172 {L : Nat} {xs : Nat → Int32} {l : Launch} {res : Int × Hp} (k107 : Nat → Int → Int → Int → Hp → Option (Int × Hp)) (hk107 : ∀ (x0 : Nat) (x1 : Int) (x2 : Int) (x3 : Int) (h : Hp), R32 x1 → R32 x2 → R32 x3 → k107 x0 x1 x2 x3 h = some res → J L xs l RX12 cX12_line 10 false 5 (QL res) 0 0 107 [(0, vr x0), (1, vi x1), (2, vi x2), (3, vi x3)] [] h) (x0 : Nat) (x1 : Int) (x2 : Int) (x3 : Int) (x4 : Int) (h : Hp) (rx1 : R32 x1) (rx2 : R32 x2) (rx3 : R32 x3) (rx4 : R32 x4) (H : fX12_line_172 k107 x0 x1 x2 x3 x4 h = some res) : J L xs l RX12 cX12_line 10 false 5 (QL res) 0 0 172 [(0, vr x0), (1, vi x1), (2, vi x2), (3, vi x3), (4, vi x4)] [] h := by
  unfold fX12_line_172 at H
  refine j_aload_n (i := 0) (pc' := 173) dX12_line_172 rfl rfl 0 rfl ?_
  obtain ⟨v1, e1, H⟩ := bs H
  refine j_getR (pc' := 176) dX12_line_173 rfl fl_X12_70 e1 (fun r1 => ?_)
  refine j_iload (pc' := 178) dX12_line_176 rfl 4 rfl ?_
  refine j_iload_n (i := 3) (pc' := 179) dX12_line_178 rfl rfl 3 rfl ?_
  obtain ⟨h2, e2, H⟩ := bs H
  refine j_iast (pc' := 180) dX12_line_179 rfl rx3 e2 ?_
  obtain ⟨u3, e3, H⟩ := bs H
  have r3 := c32_R e3
  refine j_iinc (k0 := 3) (lv' := [(0, vr x0), (1, vi x1), (2, vi x2), (3, vi (x3 + 1)), (4, vi x4)]) (pc' := 183) dX12_line_180 rfl rfl (by decide) [1, 2, 3, 0, 4] rfl ?_
  refine j_goto (tgt := 107) dX12_line_183 (by decide) ?_
  refine j_sub (lv' := [(0, vr x0), (1, vi x1), (2, vi x2), (3, vi (x3 + 1))]) [0, 1, 2, 3] rfl ?_
  exact hk107 x0 x1 x2 (x3 + 1) h2 rx1 rx2 r3 H
noncomputable def fX12_line_118 (k107 : Nat → Int → Int → Int → Hp → Option (Int × Hp)) : Nat → Nat → Int → Int → Int → Int → Hp → Option (Int × Hp)
  | 0, _, _, _, _, _, _ => none
  | n + 1, x0, x1, x2, x3, x4, h => if x4 ≤ 0 then (fX12_line_172 k107 x0 x1 x2 x3 x4 h) else ((getR h 11 x0 1).bind fun v2 => (getR h 11 x0 24).bind fun v3 => (ald h 0 v3 (x4 - 1)).bind fun v4 => (ald h 0 v2 (4 * v4)).bind fun v5 => (getR h 11 x0 1).bind fun v6 => (ald h 0 v6 (4 * x3)).bind fun v7 => if v5 ≤ v7 then (fX12_line_172 k107 x0 x1 x2 x3 x4 h) else ((getR h 11 x0 24).bind fun v9 => (getR h 11 x0 24).bind fun v10 => (ald h 0 v10 (x4 - 1)).bind fun v11 => (ast h 0 v9 x4 v11).bind fun h12 => (c32 (x4 + (-1))).bind fun _ => fX12_line_118 k107 n x0 x1 x2 x3 (x4 + (-1)) h12))
theorem tX12_line_118 {L : Nat} {xs : Nat → Int32} {l : Launch} {res : Int × Hp} (k107 : Nat → Int → Int → Int → Hp → Option (Int × Hp)) (hk107 : ∀ (x0 : Nat) (x1 : Int) (x2 : Int) (x3 : Int) (h : Hp), R32 x1 → R32 x2 → R32 x3 → k107 x0 x1 x2 x3 h = some res → J L xs l RX12 cX12_line 10 false 5 (QL res) 0 0 107 [(0, vr x0), (1, vi x1), (2, vi x2), (3, vi x3)] [] h) : ∀ (n : Nat) (x0 : Nat) (x1 : Int) (x2 : Int) (x3 : Int) (x4 : Int) (h : Hp), R32 x1 → R32 x2 → R32 x3 → R32 x4 → fX12_line_118 k107 n x0 x1 x2 x3 x4 h = some res → J L xs l RX12 cX12_line 10 false 5 (QL res) 0 0 118 [(0, vr x0), (1, vi x1), (2, vi x2), (3, vi x3), (4, vi x4)] [] h := by
  intro n
  induction n with
  | zero => intro x0 x1 x2 x3 x4 h rx1 rx2 rx3 rx4 H; cases H
  | succ n ih =>
    intro x0 x1 x2 x3 x4 h rx1 rx2 rx3 rx4 H
    rw [fX12_line_118] at H
    refine j_iload (pc' := 120) dX12_line_118 rfl 4 rfl ?_
    refine j_if_le (tgt := 172) (pc' := 123) dX12_line_120 (by decide) rfl rx4 (fun c1 => ?_) (fun c1 => ?_)
    · rw [if_pos c1] at H
      exact tX12_line_172 _ hk107 x0 x1 x2 x3 x4 h rx1 rx2 rx3 rx4 H
    · rw [if_neg c1] at H
      refine j_aload_n (i := 0) (pc' := 124) dX12_line_123 rfl rfl 0 rfl ?_
      obtain ⟨v2, e2, H⟩ := bs H
      refine j_getR (pc' := 127) dX12_line_124 rfl fl_X12_13 e2 (fun r2 => ?_)
      refine j_iconst (pc' := 128) dX12_line_127 rfl ?_
      refine j_aload_n (i := 0) (pc' := 129) dX12_line_128 rfl rfl 0 rfl ?_
      obtain ⟨v3, e3, H⟩ := bs H
      refine j_getR (pc' := 132) dX12_line_129 rfl fl_X12_70 e3 (fun r3 => ?_)
      refine j_iload (pc' := 134) dX12_line_132 rfl 4 rfl ?_
      refine j_iconst (pc' := 135) dX12_line_134 rfl ?_
      refine j_isub (pc' := 136) dX12_line_135 rfl ?_
      obtain ⟨v4, e4, H⟩ := bs H
      refine j_iald (pc' := 137) dX12_line_136 rfl e4 (fun r4 => ?_)
      refine j_imul (pc' := 138) dX12_line_137 rfl ?_
      obtain ⟨v5, e5, H⟩ := bs H
      refine j_iald (pc' := 139) dX12_line_138 rfl e5 (fun r5 => ?_)
      refine j_aload_n (i := 0) (pc' := 140) dX12_line_139 rfl rfl 0 rfl ?_
      obtain ⟨v6, e6, H⟩ := bs H
      refine j_getR (pc' := 143) dX12_line_140 rfl fl_X12_13 e6 (fun r6 => ?_)
      refine j_iconst (pc' := 144) dX12_line_143 rfl ?_
      refine j_iload_n (i := 3) (pc' := 145) dX12_line_144 rfl rfl 3 rfl ?_
      refine j_imul (pc' := 146) dX12_line_145 rfl ?_
      obtain ⟨v7, e7, H⟩ := bs H
      refine j_iald (pc' := 147) dX12_line_146 rfl e7 (fun r7 => ?_)
      refine j_icmp_le (tgt := 172) (pc' := 150) dX12_line_147 (by decide) rfl r5 r7 (fun c8 => ?_) (fun c8 => ?_)
      · rw [if_pos c8] at H
        exact tX12_line_172 _ hk107 x0 x1 x2 x3 x4 h rx1 rx2 rx3 rx4 H
      · rw [if_neg c8] at H
        refine j_aload_n (i := 0) (pc' := 151) dX12_line_150 rfl rfl 0 rfl ?_
        obtain ⟨v9, e9, H⟩ := bs H
        refine j_getR (pc' := 154) dX12_line_151 rfl fl_X12_70 e9 (fun r9 => ?_)
        refine j_iload (pc' := 156) dX12_line_154 rfl 4 rfl ?_
        refine j_aload_n (i := 0) (pc' := 157) dX12_line_156 rfl rfl 0 rfl ?_
        obtain ⟨v10, e10, H⟩ := bs H
        refine j_getR (pc' := 160) dX12_line_157 rfl fl_X12_70 e10 (fun r10 => ?_)
        refine j_iload (pc' := 162) dX12_line_160 rfl 4 rfl ?_
        refine j_iconst (pc' := 163) dX12_line_162 rfl ?_
        refine j_isub (pc' := 164) dX12_line_163 rfl ?_
        obtain ⟨v11, e11, H⟩ := bs H
        refine j_iald (pc' := 165) dX12_line_164 rfl e11 (fun r11 => ?_)
        obtain ⟨h12, e12, H⟩ := bs H
        refine j_iast (pc' := 166) dX12_line_165 rfl r11 e12 ?_
        obtain ⟨u13, e13, H⟩ := bs H
        have r13 := c32_R e13
        refine j_iinc (k0 := 4) (lv' := [(0, vr x0), (1, vi x1), (2, vi x2), (3, vi x3), (4, vi (x4 + (-1)))]) (pc' := 169) dX12_line_166 rfl rfl (by decide) [1, 2, 3, 4, 0] rfl ?_
        refine j_goto (tgt := 118) dX12_line_169 (by decide) ?_
        exact ih x0 x1 x2 x3 (x4 + (-1)) h12 rx1 rx2 rx3 r13 H
noncomputable def fX12_line_107 : Nat → Nat → Int → Int → Int → Hp → Option (Int × Hp)
  | 0, _, _, _, _, _ => none
  | n + 1, x0, x1, x2, x3, h => (cob h 11 x0).bind fun _ => (fX12_n x0 h).bind fun p2 => if p2.1 ≤ x3 then (fX12_line_186 x0 x1 x2 p2.2) else (fX12_line_118 (fX12_line_107 n) FU x0 x1 x2 x3 x3 p2.2)
theorem tX12_line_107 {L : Nat} {xs : Nat → Int32} {l : Launch} {res : Int × Hp} : ∀ (n : Nat) (x0 : Nat) (x1 : Int) (x2 : Int) (x3 : Int) (h : Hp), R32 x1 → R32 x2 → R32 x3 → fX12_line_107 n x0 x1 x2 x3 h = some res → J L xs l RX12 cX12_line 10 false 5 (QL res) 0 0 107 [(0, vr x0), (1, vi x1), (2, vi x2), (3, vi x3)] [] h := by
  intro n
  induction n with
  | zero => intro x0 x1 x2 x3 h rx1 rx2 rx3 H; cases H
  | succ n ih =>
    intro x0 x1 x2 x3 h rx1 rx2 rx3 H
    rw [fX12_line_107] at H
    refine j_iload_n (i := 3) (pc' := 108) dX12_line_107 rfl rfl 3 rfl ?_
    refine j_aload_n (i := 0) (pc' := 109) dX12_line_108 rfl rfl 0 rfl ?_
    obtain ⟨u1, e1, H⟩ := bs H
    obtain ⟨p2, e2, H⟩ := bs H
    refine j_cVi (y := yX12_n) (dY := 1) (vs := []) (st := [vi x3]) (q := x0) (pc' := 112) dX12_line_109 rfl ymX12_n yvX12_n ml_X12_90 (by decide) rfl (Nat.le_of_ble_eq_true rfl) (Nat.le_of_ble_eq_true rfl) e1 (tX12_n x0 h e2) (fun r2 z2 => ?_)
    refine j_icmp_ge (tgt := 186) (pc' := 115) dX12_line_112 (by decide) rfl rx3 r2 (fun c3 => ?_) (fun c3 => ?_)
    · rw [if_pos c3] at H
      refine j_sub (lv' := [(0, vr x0), (1, vi x1), (2, vi x2)]) [0, 1, 2] rfl ?_
      exact tX12_line_186   x0 x1 x2 p2.2 rx1 rx2 H
    · rw [if_neg c3] at H
      refine j_iload_n (i := 3) (pc' := 116) dX12_line_115 rfl rfl 3 rfl ?_
      refine j_istore (lv' := [(0, vr x0), (1, vi x1), (2, vi x2), (3, vi x3), (4, vi x3)]) (pc' := 118) dX12_line_116 rfl (by decide) [1, 2, 3, 4, 0] rfl ?_
      exact tX12_line_118 _ ih FU x0 x1 x2 x3 x3 p2.2 rx1 rx2 rx3 rx3 H
noncomputable def fX12_line_105 (x0 : Nat) (x1 : Int) (x2 : Int) (h : Hp) : Option (Int × Hp) :=
  fX12_line_107 FU x0 x1 x2 0 h
theorem tX12_line_105 {L : Nat} {xs : Nat → Int32} {l : Launch} {res : Int × Hp} (x0 : Nat) (x1 : Int) (x2 : Int) (h : Hp) (rx1 : R32 x1) (rx2 : R32 x2) (H : fX12_line_105 x0 x1 x2 h = some res) : J L xs l RX12 cX12_line 10 false 5 (QL res) 0 0 105 [(0, vr x0), (1, vi x1), (2, vi x2)] [] h := by
  unfold fX12_line_105 at H
  refine j_iconst (pc' := 106) dX12_line_105 rfl ?_
  refine j_istore_n (i := 3) (lv' := [(0, vr x0), (1, vi x1), (2, vi x2), (3, vi 0)]) (pc' := 107) dX12_line_106 rfl rfl (by decide) [1, 2, 3, 0] rfl ?_
  exact tX12_line_107   FU x0 x1 x2 0 h rx1 rx2 ⟨by decide, by decide⟩ H
noncomputable def fX12_line_99 (k40 : Nat → Int → Int → Int → Hp → Option (Int × Hp)) (x0 : Nat) (x1 : Int) (x2 : Int) (x3 : Int) (h : Hp) : Option (Int × Hp) :=
  (c32 (x3 + 1)).bind fun _ => k40 x0 x1 x2 (x3 + 1) h
theorem tX12_line_99 {L : Nat} {xs : Nat → Int32} {l : Launch} {res : Int × Hp} (k40 : Nat → Int → Int → Int → Hp → Option (Int × Hp)) (hk40 : ∀ (x0 : Nat) (x1 : Int) (x2 : Int) (x3 : Int) (h : Hp), R32 x1 → R32 x2 → R32 x3 → k40 x0 x1 x2 x3 h = some res → J L xs l RX12 cX12_line 10 false 5 (QL res) 0 0 40 [(0, vr x0), (1, vi x1), (2, vi x2), (3, vi x3)] [] h) (x0 : Nat) (x1 : Int) (x2 : Int) (x3 : Int) (h : Hp) (rx1 : R32 x1) (rx2 : R32 x2) (rx3 : R32 x3) (H : fX12_line_99 k40 x0 x1 x2 x3 h = some res) : J L xs l RX12 cX12_line 10 false 5 (QL res) 0 0 99 [(0, vr x0), (1, vi x1), (2, vi x2), (3, vi x3)] [] h := by
  unfold fX12_line_99 at H
  obtain ⟨u1, e1, H⟩ := bs H
  have r1 := c32_R e1
  refine j_iinc (k0 := 3) (lv' := [(0, vr x0), (1, vi x1), (2, vi x2), (3, vi (x3 + 1))]) (pc' := 102) dX12_line_99 rfl rfl (by decide) [1, 2, 3, 0] rfl ?_
  refine j_goto (tgt := 40) dX12_line_102 (by decide) ?_
  exact hk40 x0 x1 x2 (x3 + 1) h rx1 rx2 r1 H
noncomputable def fX12_line_51 (k40 : Nat → Int → Int → Int → Hp → Option (Int × Hp)) : Nat → Nat → Int → Int → Int → Int → Hp → Option (Int × Hp)
  | 0, _, _, _, _, _, _ => none
  | n + 1, x0, x1, x2, x3, x4, h => (cob h 11 x0).bind fun _ => (fX12_n x0 h).bind fun p2 => if p2.1 ≤ x4 then (fX12_line_99 k40 x0 x1 x2 x3 p2.2) else ((getR p2.2 11 x0 23).bind fun v4 => (getR p2.2 11 x0 1).bind fun v5 => (ald p2.2 0 v5 (4 * x3)).bind fun v6 => (getR p2.2 11 x0 1).bind fun v7 => (ald p2.2 0 v7 (4 * x4)).bind fun v8 => (c32 (v6 - v8)).bind fun _ => (c32 (max (v6 - v8) (-(v6 - v8)))).bind fun _ => (ast p2.2 0 v4 ((12 * x3) + x4) (max (v6 - v8) (-(v6 - v8)))).bind fun h11 => (c32 (x4 + 1)).bind fun _ => fX12_line_51 k40 n x0 x1 x2 x3 (x4 + 1) h11)
theorem tX12_line_51 {L : Nat} {xs : Nat → Int32} {l : Launch} {res : Int × Hp} (k40 : Nat → Int → Int → Int → Hp → Option (Int × Hp)) (hk40 : ∀ (x0 : Nat) (x1 : Int) (x2 : Int) (x3 : Int) (h : Hp), R32 x1 → R32 x2 → R32 x3 → k40 x0 x1 x2 x3 h = some res → J L xs l RX12 cX12_line 10 false 5 (QL res) 0 0 40 [(0, vr x0), (1, vi x1), (2, vi x2), (3, vi x3)] [] h) : ∀ (n : Nat) (x0 : Nat) (x1 : Int) (x2 : Int) (x3 : Int) (x4 : Int) (h : Hp), R32 x1 → R32 x2 → R32 x3 → R32 x4 → fX12_line_51 k40 n x0 x1 x2 x3 x4 h = some res → J L xs l RX12 cX12_line 10 false 5 (QL res) 0 0 51 [(0, vr x0), (1, vi x1), (2, vi x2), (3, vi x3), (4, vi x4)] [] h := by
  intro n
  induction n with
  | zero => intro x0 x1 x2 x3 x4 h rx1 rx2 rx3 rx4 H; cases H
  | succ n ih =>
    intro x0 x1 x2 x3 x4 h rx1 rx2 rx3 rx4 H
    rw [fX12_line_51] at H
    refine j_iload (pc' := 53) dX12_line_51 rfl 4 rfl ?_
    refine j_aload_n (i := 0) (pc' := 54) dX12_line_53 rfl rfl 0 rfl ?_
    obtain ⟨u1, e1, H⟩ := bs H
    obtain ⟨p2, e2, H⟩ := bs H
    refine j_cVi (y := yX12_n) (dY := 1) (vs := []) (st := [vi x4]) (q := x0) (pc' := 57) dX12_line_54 rfl ymX12_n yvX12_n ml_X12_90 (by decide) rfl (Nat.le_of_ble_eq_true rfl) (Nat.le_of_ble_eq_true rfl) e1 (tX12_n x0 h e2) (fun r2 z2 => ?_)
    refine j_icmp_ge (tgt := 99) (pc' := 60) dX12_line_57 (by decide) rfl rx4 r2 (fun c3 => ?_) (fun c3 => ?_)
    · rw [if_pos c3] at H
      refine j_sub (lv' := [(0, vr x0), (1, vi x1), (2, vi x2), (3, vi x3)]) [0, 1, 2, 3] rfl ?_
      exact tX12_line_99 _ hk40 x0 x1 x2 x3 p2.2 rx1 rx2 rx3 H
    · rw [if_neg c3] at H
      refine j_aload_n (i := 0) (pc' := 61) dX12_line_60 rfl rfl 0 rfl ?_
      obtain ⟨v4, e4, H⟩ := bs H
      refine j_getR (pc' := 64) dX12_line_61 rfl fl_X12_67 e4 (fun r4 => ?_)
      refine j_bipush (pc' := 66) dX12_line_64 rfl (by decide +kernel) ?_
      refine j_iload_n (i := 3) (pc' := 67) dX12_line_66 rfl rfl 3 rfl ?_
      refine j_imul (pc' := 68) dX12_line_67 rfl ?_
      refine j_iload (pc' := 70) dX12_line_68 rfl 4 rfl ?_
      refine j_iadd (pc' := 71) dX12_line_70 rfl ?_
      refine j_aload_n (i := 0) (pc' := 72) dX12_line_71 rfl rfl 0 rfl ?_
      obtain ⟨v5, e5, H⟩ := bs H
      refine j_getR (pc' := 75) dX12_line_72 rfl fl_X12_13 e5 (fun r5 => ?_)
      refine j_iconst (pc' := 76) dX12_line_75 rfl ?_
      refine j_iload_n (i := 3) (pc' := 77) dX12_line_76 rfl rfl 3 rfl ?_
      refine j_imul (pc' := 78) dX12_line_77 rfl ?_
      obtain ⟨v6, e6, H⟩ := bs H
      refine j_iald (pc' := 79) dX12_line_78 rfl e6 (fun r6 => ?_)
      refine j_aload_n (i := 0) (pc' := 80) dX12_line_79 rfl rfl 0 rfl ?_
      obtain ⟨v7, e7, H⟩ := bs H
      refine j_getR (pc' := 83) dX12_line_80 rfl fl_X12_13 e7 (fun r7 => ?_)
      refine j_iconst (pc' := 84) dX12_line_83 rfl ?_
      refine j_iload (pc' := 86) dX12_line_84 rfl 4 rfl ?_
      refine j_imul (pc' := 87) dX12_line_86 rfl ?_
      obtain ⟨v8, e8, H⟩ := bs H
      refine j_iald (pc' := 88) dX12_line_87 rfl e8 (fun r8 => ?_)
      refine j_isub (pc' := 89) dX12_line_88 rfl ?_
      obtain ⟨u9, e9, H⟩ := bs H
      have r9 := c32_R e9
      refine j_mabs (pc' := 92) dX12_line_89 rfl ml_X12_120 (by decide) (Nat.le_of_ble_eq_true rfl) r9 ?_
      obtain ⟨u10, e10, H⟩ := bs H
      have r10 := c32_R e10
      obtain ⟨h11, e11, H⟩ := bs H
      refine j_iast (pc' := 93) dX12_line_92 rfl r10 e11 ?_
      obtain ⟨u12, e12, H⟩ := bs H
      have r12 := c32_R e12
      refine j_iinc (k0 := 4) (lv' := [(0, vr x0), (1, vi x1), (2, vi x2), (3, vi x3), (4, vi (x4 + 1))]) (pc' := 96) dX12_line_93 rfl rfl (by decide) [1, 2, 3, 4, 0] rfl ?_
      refine j_goto (tgt := 51) dX12_line_96 (by decide) ?_
      exact ih x0 x1 x2 x3 (x4 + 1) h11 rx1 rx2 rx3 r12 H
noncomputable def fX12_line_40 : Nat → Nat → Int → Int → Int → Hp → Option (Int × Hp)
  | 0, _, _, _, _, _ => none
  | n + 1, x0, x1, x2, x3, h => (cob h 11 x0).bind fun _ => (fX12_n x0 h).bind fun p2 => if p2.1 ≤ x3 then (fX12_line_105 x0 x1 x2 p2.2) else (fX12_line_51 (fX12_line_40 n) FU x0 x1 x2 x3 0 p2.2)
theorem tX12_line_40 {L : Nat} {xs : Nat → Int32} {l : Launch} {res : Int × Hp} : ∀ (n : Nat) (x0 : Nat) (x1 : Int) (x2 : Int) (x3 : Int) (h : Hp), R32 x1 → R32 x2 → R32 x3 → fX12_line_40 n x0 x1 x2 x3 h = some res → J L xs l RX12 cX12_line 10 false 5 (QL res) 0 0 40 [(0, vr x0), (1, vi x1), (2, vi x2), (3, vi x3)] [] h := by
  intro n
  induction n with
  | zero => intro x0 x1 x2 x3 h rx1 rx2 rx3 H; cases H
  | succ n ih =>
    intro x0 x1 x2 x3 h rx1 rx2 rx3 H
    rw [fX12_line_40] at H
    refine j_iload_n (i := 3) (pc' := 41) dX12_line_40 rfl rfl 3 rfl ?_
    refine j_aload_n (i := 0) (pc' := 42) dX12_line_41 rfl rfl 0 rfl ?_
    obtain ⟨u1, e1, H⟩ := bs H
    obtain ⟨p2, e2, H⟩ := bs H
    refine j_cVi (y := yX12_n) (dY := 1) (vs := []) (st := [vi x3]) (q := x0) (pc' := 45) dX12_line_42 rfl ymX12_n yvX12_n ml_X12_90 (by decide) rfl (Nat.le_of_ble_eq_true rfl) (Nat.le_of_ble_eq_true rfl) e1 (tX12_n x0 h e2) (fun r2 z2 => ?_)
    refine j_icmp_ge (tgt := 105) (pc' := 48) dX12_line_45 (by decide) rfl rx3 r2 (fun c3 => ?_) (fun c3 => ?_)
    · rw [if_pos c3] at H
      refine j_sub (lv' := [(0, vr x0), (1, vi x1), (2, vi x2)]) [0, 1, 2] rfl ?_
      exact tX12_line_105   x0 x1 x2 p2.2 rx1 rx2 H
    · rw [if_neg c3] at H
      refine j_iconst (pc' := 49) dX12_line_48 rfl ?_
      refine j_istore (lv' := [(0, vr x0), (1, vi x1), (2, vi x2), (3, vi x3), (4, vi 0)]) (pc' := 51) dX12_line_49 rfl (by decide) [1, 2, 3, 4, 0] rfl ?_
      exact tX12_line_51 _ ih FU x0 x1 x2 x3 0 p2.2 rx1 rx2 rx3 ⟨by decide, by decide⟩ H
noncomputable def fX12_line (a0 : Nat) (a1 : Int) (a2 : Int) (h : Hp) : Option (Int × Hp) :=
  (putV h 11 a0 19 (vi 0)).bind fun h1 => if a1 < 0 then (fX12_line_27 a0 h1) else (if 2 < a1 then (fX12_line_27 a0 h1) else (if a2 < 1 then (fX12_line_27 a0 h1) else ((cob h1 11 a0).bind fun _ => (fX12_n a0 h1).bind fun p6 => if a2 ≤ p6.1 then ((cob p6.2 11 a0).bind fun _ => (fX12_change a0 p6.2).bind fun h9 => fX12_line_40 FU a0 a1 a2 0 h9) else (fX12_line_27 a0 p6.2))))
theorem tX12_line {L : Nat} {xs : Nat → Int32} {l : Launch} {res : Int × Hp} (a0 : Nat) (a1 : Int) (a2 : Int) (h : Hp) (ra1 : R32 a1) (ra2 : R32 a2) (H : fX12_line a0 a1 a2 h = some res) : J L xs l RX12 cX12_line 10 false 5 (QL res) 0 0 0 (alv 0 [vr a0, vi a1, vi a2]) [] h := by
  unfold fX12_line at H
  show J L xs l RX12 cX12_line 10 false 5 (QL res) 0 0 0 [(0, vr a0), (1, vi a1), (2, vi a2)] [] h
  refine j_aload_n (i := 0) (pc' := 1) dX12_line_0 rfl rfl 0 rfl ?_
  refine j_iconst (pc' := 2) dX12_line_1 rfl ?_
  obtain ⟨h1, e1, H⟩ := bs H
  refine j_putV (pc' := 5) dX12_line_2 rfl fp_X12_77 tI ⟨by decide, by decide⟩ e1 ?_
  refine j_iload_n (i := 1) (pc' := 6) dX12_line_5 rfl rfl 1 rfl ?_
  refine j_if_lt (tgt := 27) (pc' := 9) dX12_line_6 (by decide) rfl ra1 (fun c2 => ?_) (fun c2 => ?_)
  · rw [if_pos c2] at H
    refine j_sub (lv' := [(0, vr a0)]) [0] rfl ?_
    exact tX12_line_27   a0 h1  H
  · rw [if_neg c2] at H
    refine j_iload_n (i := 1) (pc' := 10) dX12_line_9 rfl rfl 1 rfl ?_
    refine j_iconst (pc' := 11) dX12_line_10 rfl ?_
    refine j_icmp_gt (tgt := 27) (pc' := 14) dX12_line_11 (by decide) rfl ra1 ⟨by decide, by decide⟩ (fun c3 => ?_) (fun c3 => ?_)
    · rw [if_pos c3] at H
      refine j_sub (lv' := [(0, vr a0)]) [0] rfl ?_
      exact tX12_line_27   a0 h1  H
    · rw [if_neg c3] at H
      refine j_iload_n (i := 2) (pc' := 15) dX12_line_14 rfl rfl 2 rfl ?_
      refine j_iconst (pc' := 16) dX12_line_15 rfl ?_
      refine j_icmp_lt (tgt := 27) (pc' := 19) dX12_line_16 (by decide) rfl ra2 ⟨by decide, by decide⟩ (fun c4 => ?_) (fun c4 => ?_)
      · rw [if_pos c4] at H
        refine j_sub (lv' := [(0, vr a0)]) [0] rfl ?_
        exact tX12_line_27   a0 h1  H
      · rw [if_neg c4] at H
        refine j_iload_n (i := 2) (pc' := 20) dX12_line_19 rfl rfl 2 rfl ?_
        refine j_aload_n (i := 0) (pc' := 21) dX12_line_20 rfl rfl 0 rfl ?_
        obtain ⟨u5, e5, H⟩ := bs H
        obtain ⟨p6, e6, H⟩ := bs H
        refine j_cVi (y := yX12_n) (dY := 1) (vs := []) (st := [vi a2]) (q := a0) (pc' := 24) dX12_line_21 rfl ymX12_n yvX12_n ml_X12_90 (by decide) rfl (Nat.le_of_ble_eq_true rfl) (Nat.le_of_ble_eq_true rfl) e5 (tX12_n a0 h1 e6) (fun r6 z6 => ?_)
        refine j_icmp_le (tgt := 34) (pc' := 27) dX12_line_24 (by decide) rfl ra2 r6 (fun c7 => ?_) (fun c7 => ?_)
        · rw [if_pos c7] at H
          refine j_aload_n (i := 0) (pc' := 35) dX12_line_34 rfl rfl 0 rfl ?_
          obtain ⟨u8, e8, H⟩ := bs H
          obtain ⟨h9, e9, H⟩ := bs H
          refine j_cVv (y := yX12_change) (dY := 2) (vs := []) (st := []) (q := a0) (pc' := 38) dX12_line_35 rfl ymX12_change yvX12_change ml_X12_102 (by decide) rfl (Nat.le_of_ble_eq_true rfl) (Nat.le_of_ble_eq_true rfl) e8 (tX12_change a0 p6.2 e9) (fun z9 => ?_)
          refine j_iconst (pc' := 39) dX12_line_38 rfl ?_
          refine j_istore_n (i := 3) (lv' := [(0, vr a0), (1, vi a1), (2, vi a2), (3, vi 0)]) (pc' := 40) dX12_line_39 rfl rfl (by decide) [1, 2, 3, 0] rfl ?_
          exact tX12_line_40   FU a0 a1 a2 0 h9 ra1 ra2 ⟨by decide, by decide⟩ H
        · rw [if_neg c7] at H
          refine j_sub (lv' := [(0, vr a0)]) [0] rfl ?_
          exact tX12_line_27   a0 p6.2  H
