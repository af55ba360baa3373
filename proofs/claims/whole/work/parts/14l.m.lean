-- X12_third
noncomputable def fX12_third_100 (x0 : Nat) (h : Hp) : Option (Int × Hp) :=
  (getR h 11 x0 24).bind fun v1 => (cob h 11 x0).bind fun _ => (fX12_gather x0 v1 h).bind fun p3 => (getR p3.2 11 x0 20).bind fun v4 => (cob p3.2 11 x0).bind fun _ => (fX12_become x0 v4 p3.2).bind fun h6 => some (p3.1, h6)
theorem tX12_third_100 {L : Nat} {xs : Nat → Int32} {l : Launch} {res : Int × Hp} (x0 : Nat) (h : Hp)  (H : fX12_third_100 x0 h = some res) : J L xs l RX12 cX12_third 6 false 6 (QL res) 0 0 100 [(0, vr x0)] [] h := by
  unfold fX12_third_100 at H
  refine j_aload_n (i := 0) (pc' := 101) dX12_third_100 rfl rfl 0 rfl ?_
  refine j_aload_n (i := 0) (pc' := 102) dX12_third_101 rfl rfl 0 rfl ?_
  obtain ⟨v1, e1, H⟩ := bs H
  refine j_getR (pc' := 105) dX12_third_102 rfl fl_X12_70 e1 (fun r1 => ?_)
  obtain ⟨u2, e2, H⟩ := bs H
  obtain ⟨p3, e3, H⟩ := bs H
  refine j_cVl (y := yX12_gather) (dY := 5) (vs := [vr v1]) (st := []) (q := x0) (pc' := 108) dX12_third_105 rfl ymX12_gather yvX12_gather ml_X12_193 (by decide) rfl (Nat.le_of_ble_eq_true rfl) (Nat.le_of_ble_eq_true rfl) e2 (tX12_gather x0 v1 h e3) (fun r3 z3 => ?_)
  refine j_lstore_n (i := 3) (lv' := [(0, vr x0), (3, vl p3.1)]) (pc' := 109) dX12_third_108 rfl rfl (by decide) [1, 0] rfl ?_
  refine j_aload_n (i := 0) (pc' := 110) dX12_third_109 rfl rfl 0 rfl ?_
  refine j_aload_n (i := 0) (pc' := 111) dX12_third_110 rfl rfl 0 rfl ?_
  obtain ⟨v4, e4, H⟩ := bs H
  refine j_getR (pc' := 114) dX12_third_111 rfl fl_X12_58 e4 (fun r4 => ?_)
  obtain ⟨u5, e5, H⟩ := bs H
  obtain ⟨h6, e6, H⟩ := bs H
  refine j_cVv (y := yX12_become) (dY := 2) (vs := [vr v4]) (st := []) (q := x0) (pc' := 117) dX12_third_114 rfl ymX12_become yvX12_become ml_X12_150 (by decide) rfl (Nat.le_of_ble_eq_true rfl) (Nat.le_of_ble_eq_true rfl) e5 (tX12_become x0 v4 p3.2 e6) (fun z6 => ?_)
  refine j_lload_n (i := 3) (pc' := 118) dX12_third_117 rfl rfl 1 rfl ?_
  obtain rfl := Option.some.inj H
  exact j_lret dX12_third_118 r3 ⟨rfl, rfl⟩
noncomputable def fX12_third_41 : Nat → Nat → Int → Int → Hp → Option (Int × Hp)
  | 0, _, _, _, _ => none
  | n + 1, x0, x2, x3, h => if x3 ≤ 0 then (fX12_third_100 x0 h) else ((c32 (x3 + 1)).bind fun _ => (cnz (x3 + 1)).bind fun _ => (getR h 11 x0 24).bind fun v4 => (ald h 0 v4 x3).bind fun v5 => (getR h 11 x0 24).bind fun v6 => (getR h 11 x0 24).bind fun v7 => (ald h 0 v7 (bRem (bUsh (wAdd (x2 * 1103515245) 12345) 16) (x3 + 1))).bind fun v8 => (ast h 0 v6 x3 v8).bind fun h9 => (getR h9 11 x0 24).bind fun v10 => (ast h9 0 v10 (bRem (bUsh (wAdd (x2 * 1103515245) 12345) 16) (x3 + 1)) v5).bind fun h11 => (c32 (x3 + (-1))).bind fun _ => fX12_third_41 n x0 (wAdd (x2 * 1103515245) 12345) (x3 + (-1)) h11)
theorem tX12_third_41 {L : Nat} {xs : Nat → Int32} {l : Launch} {res : Int × Hp} : ∀ (n : Nat) (x0 : Nat) (x2 : Int) (x3 : Int) (h : Hp), R32 x2 → R32 x3 → fX12_third_41 n x0 x2 x3 h = some res → J L xs l RX12 cX12_third 6 false 6 (QL res) 0 0 41 [(0, vr x0), (2, vi x2), (3, vi x3)] [] h := by
  intro n
  induction n with
  | zero => intro x0 x2 x3 h rx2 rx3 H; cases H
  | succ n ih =>
    intro x0 x2 x3 h rx2 rx3 H
    rw [fX12_third_41] at H
    refine j_iload_n (i := 3) (pc' := 42) dX12_third_41 rfl rfl 2 rfl ?_
    refine j_if_le (tgt := 100) (pc' := 45) dX12_third_42 (by decide) rfl rx3 (fun c1 => ?_) (fun c1 => ?_)
    · rw [if_pos c1] at H
      refine j_sub (lv' := [(0, vr x0)]) [0] rfl ?_
      exact tX12_third_100   x0 h  H
    · rw [if_neg c1] at H
      refine j_iload_n (i := 2) (pc' := 46) dX12_third_45 rfl rfl 1 rfl ?_
      refine j_ldc (z := 1103515245) (pc' := 48) dX12_third_46 rfl kk_X12_192 (by decide +kernel) ?_
      refine j_imul (pc' := 49) dX12_third_48 rfl ?_
      refine j_sipush (pc' := 52) dX12_third_49 rfl (by decide +kernel) ?_
      refine j_iaddw (pc' := 53) dX12_third_52 rfl ?_
      refine j_istore_n (i := 2) (lv' := [(0, vr x0), (2, vi (wAdd (x2 * 1103515245) 12345)), (3, vi x3)]) (pc' := 54) dX12_third_53 rfl rfl (by decide) [1, 0, 2] rfl ?_
      refine j_iload_n (i := 2) (pc' := 55) dX12_third_54 rfl rfl 1 rfl ?_
      refine j_bipush (pc' := 57) dX12_third_55 rfl (by decide +kernel) ?_
      refine j_iushr (pc' := 58) dX12_third_57 rfl ?_
      refine j_iload_n (i := 3) (pc' := 59) dX12_third_58 rfl rfl 2 rfl ?_
      refine j_iconst (pc' := 60) dX12_third_59 rfl ?_
      refine j_iadd (pc' := 61) dX12_third_60 rfl ?_
      obtain ⟨u2, e2, H⟩ := bs H
      have r2 := c32_R e2
      obtain ⟨u3, e3, H⟩ := bs H
      refine j_irem (pc' := 62) dX12_third_61 rfl r2 (cnz_R e3) ?_
      refine j_istore (lv' := [(0, vr x0), (2, vi (wAdd (x2 * 1103515245) 12345)), (3, vi x3), (4, vi (bRem (bUsh (wAdd (x2 * 1103515245) 12345) 16) (x3 + 1)))]) (pc' := 64) dX12_third_62 rfl (by decide) [1, 2, 3, 0] rfl ?_
      refine j_aload_n (i := 0) (pc' := 65) dX12_third_64 rfl rfl 0 rfl ?_
      obtain ⟨v4, e4, H⟩ := bs H
      refine j_getR (pc' := 68) dX12_third_65 rfl fl_X12_70 e4 (fun r4 => ?_)
      refine j_iload_n (i := 3) (pc' := 69) dX12_third_68 rfl rfl 2 rfl ?_
      obtain ⟨v5, e5, H⟩ := bs H
      refine j_iald (pc' := 70) dX12_third_69 rfl e5 (fun r5 => ?_)
      refine j_istore (lv' := [(0, vr x0), (2, vi (wAdd (x2 * 1103515245) 12345)), (3, vi x3), (4, vi (bRem (bUsh (wAdd (x2 * 1103515245) 12345) 16) (x3 + 1))), (5, vi v5)]) (pc' := 72) dX12_third_70 rfl (by decide) [1, 2, 3, 4, 0] rfl ?_
      refine j_aload_n (i := 0) (pc' := 73) dX12_third_72 rfl rfl 0 rfl ?_
      obtain ⟨v6, e6, H⟩ := bs H
      refine j_getR (pc' := 76) dX12_third_73 rfl fl_X12_70 e6 (fun r6 => ?_)
      refine j_iload_n (i := 3) (pc' := 77) dX12_third_76 rfl rfl 2 rfl ?_
      refine j_aload_n (i := 0) (pc' := 78) dX12_third_77 rfl rfl 0 rfl ?_
      obtain ⟨v7, e7, H⟩ := bs H
      refine j_getR (pc' := 81) dX12_third_78 rfl fl_X12_70 e7 (fun r7 => ?_)
      refine j_iload (pc' := 83) dX12_third_81 rfl 3 rfl ?_
      obtain ⟨v8, e8, H⟩ := bs H
      refine j_iald (pc' := 84) dX12_third_83 rfl e8 (fun r8 => ?_)
      obtain ⟨h9, e9, H⟩ := bs H
      refine j_iast (pc' := 85) dX12_third_84 rfl r8 e9 ?_
      refine j_aload_n (i := 0) (pc' := 86) dX12_third_85 rfl rfl 0 rfl ?_
      obtain ⟨v10, e10, H⟩ := bs H
      refine j_getR (pc' := 89) dX12_third_86 rfl fl_X12_70 e10 (fun r10 => ?_)
      refine j_iload (pc' := 91) dX12_third_89 rfl 3 rfl ?_
      refine j_iload (pc' := 93) dX12_third_91 rfl 4 rfl ?_
      obtain ⟨h11, e11, H⟩ := bs H
      refine j_iast (pc' := 94) dX12_third_93 rfl r5 e11 ?_
      obtain ⟨u12, e12, H⟩ := bs H
      have r12 := c32_R e12
      refine j_iinc (k0 := 2) (lv' := [(0, vr x0), (2, vi (wAdd (x2 * 1103515245) 12345)), (3, vi (x3 + (-1))), (4, vi (bRem (bUsh (wAdd (x2 * 1103515245) 12345) 16) (x3 + 1))), (5, vi v5)]) (pc' := 97) dX12_third_94 rfl rfl (by decide) [1, 2, 0, 3, 4] rfl ?_
      refine j_goto (tgt := 41) dX12_third_97 (by decide) ?_
      refine j_sub (lv' := [(0, vr x0), (2, vi (wAdd (x2 * 1103515245) 12345)), (3, vi (x3 + (-1)))]) [0, 1, 2] rfl ?_
      exact ih x0 (wAdd (x2 * 1103515245) 12345) (x3 + (-1)) h11 (R32_to _) r12 H
noncomputable def fX12_third_32 (x0 : Nat) (x1 : Int) (h : Hp) : Option (Int × Hp) :=
  (cob h 11 x0).bind fun _ => (fX12_n x0 h).bind fun p2 => (c32 (p2.1 - 1)).bind fun _ => fX12_third_41 FU x0 x1 (p2.1 - 1) p2.2
theorem tX12_third_32 {L : Nat} {xs : Nat → Int32} {l : Launch} {res : Int × Hp} (x0 : Nat) (x1 : Int) (h : Hp) (rx1 : R32 x1) (H : fX12_third_32 x0 x1 h = some res) : J L xs l RX12 cX12_third 6 false 6 (QL res) 0 0 32 [(0, vr x0), (1, vi x1)] [] h := by
  unfold fX12_third_32 at H
  refine j_iload_n (i := 1) (pc' := 33) dX12_third_32 rfl rfl 1 rfl ?_
  refine j_istore_n (i := 2) (lv' := [(0, vr x0), (1, vi x1), (2, vi x1)]) (pc' := 34) dX12_third_33 rfl rfl (by decide) [1, 2, 0] rfl ?_
  refine j_aload_n (i := 0) (pc' := 35) dX12_third_34 rfl rfl 0 rfl ?_
  obtain ⟨u1, e1, H⟩ := bs H
  obtain ⟨p2, e2, H⟩ := bs H
  refine j_cVi (y := yX12_n) (dY := 1) (vs := []) (st := []) (q := x0) (pc' := 38) dX12_third_35 rfl ymX12_n yvX12_n ml_X12_90 (by decide) rfl (Nat.le_of_ble_eq_true rfl) (Nat.le_of_ble_eq_true rfl) e1 (tX12_n x0 h e2) (fun r2 z2 => ?_)
  refine j_iconst (pc' := 39) dX12_third_38 rfl ?_
  refine j_isub (pc' := 40) dX12_third_39 rfl ?_
  obtain ⟨u3, e3, H⟩ := bs H
  have r3 := c32_R e3
  refine j_istore_n (i := 3) (lv' := [(0, vr x0), (1, vi x1), (2, vi x1), (3, vi (p2.1 - 1))]) (pc' := 41) dX12_third_40 rfl rfl (by decide) [1, 2, 3, 0] rfl ?_
  refine j_sub (lv' := [(0, vr x0), (2, vi x1), (3, vi (p2.1 - 1))]) [0, 2, 3] rfl ?_
  exact tX12_third_41   FU x0 x1 (p2.1 - 1) p2.2 rx1 r3 H
noncomputable def fX12_third_11 : Nat → Nat → Int → Int → Hp → Option (Int × Hp)
  | 0, _, _, _, _ => none
  | n + 1, x0, x1, x2, h => (cob h 11 x0).bind fun _ => (fX12_n x0 h).bind fun p2 => if p2.1 ≤ x2 then (fX12_third_32 x0 x1 p2.2) else ((getR p2.2 11 x0 24).bind fun v4 => (ast p2.2 0 v4 x2 x2).bind fun h5 => (c32 (x2 + 1)).bind fun _ => fX12_third_11 n x0 x1 (x2 + 1) h5)
theorem tX12_third_11 {L : Nat} {xs : Nat → Int32} {l : Launch} {res : Int × Hp} : ∀ (n : Nat) (x0 : Nat) (x1 : Int) (x2 : Int) (h : Hp), R32 x1 → R32 x2 → fX12_third_11 n x0 x1 x2 h = some res → J L xs l RX12 cX12_third 6 false 6 (QL res) 0 0 11 [(0, vr x0), (1, vi x1), (2, vi x2)] [] h := by
  intro n
  induction n with
  | zero => intro x0 x1 x2 h rx1 rx2 H; cases H
  | succ n ih =>
    intro x0 x1 x2 h rx1 rx2 H
    rw [fX12_third_11] at H
    refine j_iload_n (i := 2) (pc' := 12) dX12_third_11 rfl rfl 2 rfl ?_
    refine j_aload_n (i := 0) (pc' := 13) dX12_third_12 rfl rfl 0 rfl ?_
    obtain ⟨u1, e1, H⟩ := bs H
    obtain ⟨p2, e2, H⟩ := bs H
    refine j_cVi (y := yX12_n) (dY := 1) (vs := []) (st := [vi x2]) (q := x0) (pc' := 16) dX12_third_13 rfl ymX12_n yvX12_n ml_X12_90 (by decide) rfl (Nat.le_of_ble_eq_true rfl) (Nat.le_of_ble_eq_true rfl) e1 (tX12_n x0 h e2) (fun r2 z2 => ?_)
    refine j_icmp_ge (tgt := 32) (pc' := 19) dX12_third_16 (by decide) rfl rx2 r2 (fun c3 => ?_) (fun c3 => ?_)
    · rw [if_pos c3] at H
      refine j_sub (lv' := [(0, vr x0), (1, vi x1)]) [0, 1] rfl ?_
      exact tX12_third_32   x0 x1 p2.2 rx1 H
    · rw [if_neg c3] at H
      refine j_aload_n (i := 0) (pc' := 20) dX12_third_19 rfl rfl 0 rfl ?_
      obtain ⟨v4, e4, H⟩ := bs H
      refine j_getR (pc' := 23) dX12_third_20 rfl fl_X12_70 e4 (fun r4 => ?_)
      refine j_iload_n (i := 2) (pc' := 24) dX12_third_23 rfl rfl 2 rfl ?_
      refine j_iload_n (i := 2) (pc' := 25) dX12_third_24 rfl rfl 2 rfl ?_
      obtain ⟨h5, e5, H⟩ := bs H
      refine j_iast (pc' := 26) dX12_third_25 rfl rx2 e5 ?_
      obtain ⟨u6, e6, H⟩ := bs H
      have r6 := c32_R e6
      refine j_iinc (k0 := 2) (lv' := [(0, vr x0), (1, vi x1), (2, vi (x2 + 1))]) (pc' := 29) dX12_third_26 rfl rfl (by decide) [1, 2, 0] rfl ?_
      refine j_goto (tgt := 11) dX12_third_29 (by decide) ?_
      exact ih x0 x1 (x2 + 1) h5 rx1 r6 H
noncomputable def fX12_third (a0 : Nat) (a1 : Int) (h : Hp) : Option (Int × Hp) :=
  (putV h 11 a0 19 (vi 0)).bind fun h1 => (cob h1 11 a0).bind fun _ => (fX12_change a0 h1).bind fun h3 => fX12_third_11 FU a0 a1 0 h3
theorem tX12_third {L : Nat} {xs : Nat → Int32} {l : Launch} {res : Int × Hp} (a0 : Nat) (a1 : Int) (h : Hp) (ra1 : R32 a1) (H : fX12_third a0 a1 h = some res) : J L xs l RX12 cX12_third 6 false 6 (QL res) 0 0 0 (alv 0 [vr a0, vi a1]) [] h := by
  unfold fX12_third at H
  show J L xs l RX12 cX12_third 6 false 6 (QL res) 0 0 0 [(0, vr a0), (1, vi a1)] [] h
  refine j_aload_n (i := 0) (pc' := 1) dX12_third_0 rfl rfl 0 rfl ?_
  refine j_iconst (pc' := 2) dX12_third_1 rfl ?_
  obtain ⟨h1, e1, H⟩ := bs H
  refine j_putV (pc' := 5) dX12_third_2 rfl fp_X12_77 tI ⟨by decide, by decide⟩ e1 ?_
  refine j_aload_n (i := 0) (pc' := 6) dX12_third_5 rfl rfl 0 rfl ?_
  obtain ⟨u2, e2, H⟩ := bs H
  obtain ⟨h3, e3, H⟩ := bs H
  refine j_cVv (y := yX12_change) (dY := 2) (vs := []) (st := []) (q := a0) (pc' := 9) dX12_third_6 rfl ymX12_change yvX12_change ml_X12_102 (by decide) rfl (Nat.le_of_ble_eq_true rfl) (Nat.le_of_ble_eq_true rfl) e2 (tX12_change a0 h1 e3) (fun z3 => ?_)
  refine j_iconst (pc' := 10) dX12_third_9 rfl ?_
  refine j_istore_n (i := 2) (lv' := [(0, vr a0), (1, vi a1), (2, vi 0)]) (pc' := 11) dX12_third_10 rfl rfl (by decide) [1, 2, 0] rfl ?_
  exact tX12_third_11   FU a0 a1 0 h3 ra1 ⟨by decide, by decide⟩ H
-- X12_orders
noncomputable def fX12_orders_107 (self : Nat → Int → Hp → Option (Int × Hp)) (x2 : Int) (h : Hp) : Option (Int × Hp) :=
  some (x2, h)
theorem tX12_orders_107 {L : Nat} {xs : Nat → Int32} {l : Launch} {res : Int × Hp} {dS : Nat} (hdS : 5 ≤ dS) (self : Nat → Int → Hp → Option (Int × Hp)) (hs : ∀ (rr : Int × Hp) (a0 : Nat) (a1 : Int) (h : Hp), R32 a1 → self a0 a1 h = some rr → J L xs l RX12 cX12_orders 6 false dS (QL rr) 0 0 0 (alv 0 [vr a0, vi a1]) [] h) (x2 : Int) (h : Hp) (rx2 : R64 x2) (H : fX12_orders_107 self x2 h = some res) : J L xs l RX12 cX12_orders 6 false (dS + 1) (QL res) 0 0 107 [(2, vl x2)] [] h := by
  unfold fX12_orders_107 at H
  refine j_lload_n (i := 2) (pc' := 108) dX12_orders_107 rfl rfl 0 rfl ?_
  obtain rfl := Option.some.inj H
  exact j_lret dX12_orders_108 rx2 ⟨rfl, rfl⟩
noncomputable def fX12_orders_22 (self : Nat → Int → Hp → Option (Int × Hp)) : Nat → Nat → Int → Int → Int → Hp → Option (Int × Hp)
  | 0, _, _, _, _, _ => none
  | n + 1, x0, x1, x2, x4, h => (cob h 11 x0).bind fun _ => (fX12_n x0 h).bind fun p2 => if p2.1 ≤ x4 then (fX12_orders_107 self x2 p2.2) else ((getR p2.2 11 x0 24).bind fun v4 => (ald p2.2 0 v4 x4).bind fun v5 => (getR p2.2 11 x0 24).bind fun v6 => (getR p2.2 11 x0 24).bind fun v7 => (ald p2.2 0 v7 x1).bind fun v8 => (ast p2.2 0 v6 x4 v8).bind fun h9 => (getR h9 11 x0 24).bind fun v10 => (ast h9 0 v10 x1 v5).bind fun h11 => (c32 (x1 + 1)).bind fun _ => (cob h11 11 x0).bind fun _ => (self x0 (x1 + 1) h11).bind fun p14 => (c64 (x2 + p14.1)).bind fun _ => (getR p14.2 11 x0 24).bind fun v16 => (ald p14.2 0 v16 x4).bind fun v17 => (getR p14.2 11 x0 24).bind fun v18 => (getR p14.2 11 x0 24).bind fun v19 => (ald p14.2 0 v19 x1).bind fun v20 => (ast p14.2 0 v18 x4 v20).bind fun h21 => (getR h21 11 x0 24).bind fun v22 => (ast h21 0 v22 x1 v17).bind fun h23 => (c32 (x4 + 1)).bind fun _ => fX12_orders_22 self n x0 x1 (x2 + p14.1) (x4 + 1) h23)
theorem tX12_orders_22 {L : Nat} {xs : Nat → Int32} {l : Launch} {res : Int × Hp} {dS : Nat} (hdS : 5 ≤ dS) (self : Nat → Int → Hp → Option (Int × Hp)) (hs : ∀ (rr : Int × Hp) (a0 : Nat) (a1 : Int) (h : Hp), R32 a1 → self a0 a1 h = some rr → J L xs l RX12 cX12_orders 6 false dS (QL rr) 0 0 0 (alv 0 [vr a0, vi a1]) [] h) : ∀ (n : Nat) (x0 : Nat) (x1 : Int) (x2 : Int) (x4 : Int) (h : Hp), R32 x1 → R64 x2 → R32 x4 → fX12_orders_22 self n x0 x1 x2 x4 h = some res → J L xs l RX12 cX12_orders 6 false (dS + 1) (QL res) 0 0 22 [(0, vr x0), (1, vi x1), (2, vl x2), (4, vi x4)] [] h := by
  intro n
  induction n with
  | zero => intro x0 x1 x2 x4 h rx1 rx2 rx4 H; cases H
  | succ n ih =>
    intro x0 x1 x2 x4 h rx1 rx2 rx4 H
    rw [fX12_orders_22] at H
    refine j_iload (pc' := 24) dX12_orders_22 rfl 3 rfl ?_
    refine j_aload_n (i := 0) (pc' := 25) dX12_orders_24 rfl rfl 0 rfl ?_
    obtain ⟨u1, e1, H⟩ := bs H
    obtain ⟨p2, e2, H⟩ := bs H
    refine j_cVi (y := yX12_n) (dY := 1) (vs := []) (st := [vi x4]) (q := x0) (pc' := 28) dX12_orders_25 rfl ymX12_n yvX12_n ml_X12_90 (by omega) rfl (Nat.le_of_ble_eq_true rfl) (Nat.le_of_ble_eq_true rfl) e1 (tX12_n x0 h e2) (fun r2 z2 => ?_)
    refine j_icmp_ge (tgt := 107) (pc' := 31) dX12_orders_28 (by decide) rfl rx4 r2 (fun c3 => ?_) (fun c3 => ?_)
    · rw [if_pos c3] at H
      refine j_sub (lv' := [(2, vl x2)]) [2] rfl ?_
      exact tX12_orders_107 hdS _ hs x2 p2.2 rx2 H
    · rw [if_neg c3] at H
      refine j_aload_n (i := 0) (pc' := 32) dX12_orders_31 rfl rfl 0 rfl ?_
      obtain ⟨v4, e4, H⟩ := bs H
      refine j_getR (pc' := 35) dX12_orders_32 rfl fl_X12_70 e4 (fun r4 => ?_)
      refine j_iload (pc' := 37) dX12_orders_35 rfl 3 rfl ?_
      obtain ⟨v5, e5, H⟩ := bs H
      refine j_iald (pc' := 38) dX12_orders_37 rfl e5 (fun r5 => ?_)
      refine j_istore (lv' := [(0, vr x0), (1, vi x1), (2, vl x2), (4, vi x4), (5, vi v5)]) (pc' := 40) dX12_orders_38 rfl (by decide) [1, 2, 3, 4, 0] rfl ?_
      refine j_aload_n (i := 0) (pc' := 41) dX12_orders_40 rfl rfl 0 rfl ?_
      obtain ⟨v6, e6, H⟩ := bs H
      refine j_getR (pc' := 44) dX12_orders_41 rfl fl_X12_70 e6 (fun r6 => ?_)
      refine j_iload (pc' := 46) dX12_orders_44 rfl 3 rfl ?_
      refine j_aload_n (i := 0) (pc' := 47) dX12_orders_46 rfl rfl 0 rfl ?_
      obtain ⟨v7, e7, H⟩ := bs H
      refine j_getR (pc' := 50) dX12_orders_47 rfl fl_X12_70 e7 (fun r7 => ?_)
      refine j_iload_n (i := 1) (pc' := 51) dX12_orders_50 rfl rfl 1 rfl ?_
      obtain ⟨v8, e8, H⟩ := bs H
      refine j_iald (pc' := 52) dX12_orders_51 rfl e8 (fun r8 => ?_)
      obtain ⟨h9, e9, H⟩ := bs H
      refine j_iast (pc' := 53) dX12_orders_52 rfl r8 e9 ?_
      refine j_aload_n (i := 0) (pc' := 54) dX12_orders_53 rfl rfl 0 rfl ?_
      obtain ⟨v10, e10, H⟩ := bs H
      refine j_getR (pc' := 57) dX12_orders_54 rfl fl_X12_70 e10 (fun r10 => ?_)
      refine j_iload_n (i := 1) (pc' := 58) dX12_orders_57 rfl rfl 1 rfl ?_
      refine j_iload (pc' := 60) dX12_orders_58 rfl 4 rfl ?_
      obtain ⟨h11, e11, H⟩ := bs H
      refine j_iast (pc' := 61) dX12_orders_60 rfl r5 e11 ?_
      refine j_lload_n (i := 2) (pc' := 62) dX12_orders_61 rfl rfl 2 rfl ?_
      refine j_aload_n (i := 0) (pc' := 63) dX12_orders_62 rfl rfl 0 rfl ?_
      refine j_iload_n (i := 1) (pc' := 64) dX12_orders_63 rfl rfl 1 rfl ?_
      refine j_iconst (pc' := 65) dX12_orders_64 rfl ?_
      refine j_iadd (pc' := 66) dX12_orders_65 rfl ?_
      obtain ⟨u12, e12, H⟩ := bs H
      have r12 := c32_R e12
      obtain ⟨u13, e13, H⟩ := bs H
      obtain ⟨p14, e14, H⟩ := bs H
      refine j_cVl (y := yX12_orders) (dY := dS) (vs := [vi (x1 + 1)]) (st := [vl x2]) (q := x0) (pc' := 69) dX12_orders_66 rfl ymX12_orders yvX12_orders ml_X12_197 (Nat.le_refl _) rfl (Nat.le_of_ble_eq_true rfl) (Nat.le_of_ble_eq_true rfl) e13 (hs _ x0 (x1 + 1) h11 r12 e14) (fun r14 z14 => ?_)
      refine j_ladd (pc' := 70) dX12_orders_69 rfl ?_
      obtain ⟨u15, e15, H⟩ := bs H
      have r15 := c64_R e15
      refine j_lstore_n (i := 2) (lv' := [(0, vr x0), (1, vi x1), (2, vl (x2 + p14.1)), (4, vi x4), (5, vi v5)]) (pc' := 71) dX12_orders_70 rfl rfl (by decide) [1, 2, 0, 3, 4] rfl ?_
      refine j_aload_n (i := 0) (pc' := 72) dX12_orders_71 rfl rfl 0 rfl ?_
      obtain ⟨v16, e16, H⟩ := bs H
      refine j_getR (pc' := 75) dX12_orders_72 rfl fl_X12_70 e16 (fun r16 => ?_)
      refine j_iload (pc' := 77) dX12_orders_75 rfl 3 rfl ?_
      obtain ⟨v17, e17, H⟩ := bs H
      refine j_iald (pc' := 78) dX12_orders_77 rfl e17 (fun r17 => ?_)
      refine j_istore (lv' := [(0, vr x0), (1, vi x1), (2, vl (x2 + p14.1)), (4, vi x4), (5, vi v17)]) (pc' := 80) dX12_orders_78 rfl (by decide) [1, 2, 3, 4, 0] rfl ?_
      refine j_aload_n (i := 0) (pc' := 81) dX12_orders_80 rfl rfl 0 rfl ?_
      obtain ⟨v18, e18, H⟩ := bs H
      refine j_getR (pc' := 84) dX12_orders_81 rfl fl_X12_70 e18 (fun r18 => ?_)
      refine j_iload (pc' := 86) dX12_orders_84 rfl 3 rfl ?_
      refine j_aload_n (i := 0) (pc' := 87) dX12_orders_86 rfl rfl 0 rfl ?_
      obtain ⟨v19, e19, H⟩ := bs H
      refine j_getR (pc' := 90) dX12_orders_87 rfl fl_X12_70 e19 (fun r19 => ?_)
      refine j_iload_n (i := 1) (pc' := 91) dX12_orders_90 rfl rfl 1 rfl ?_
      obtain ⟨v20, e20, H⟩ := bs H
      refine j_iald (pc' := 92) dX12_orders_91 rfl e20 (fun r20 => ?_)
      obtain ⟨h21, e21, H⟩ := bs H
      refine j_iast (pc' := 93) dX12_orders_92 rfl r20 e21 ?_
      refine j_aload_n (i := 0) (pc' := 94) dX12_orders_93 rfl rfl 0 rfl ?_
      obtain ⟨v22, e22, H⟩ := bs H
      refine j_getR (pc' := 97) dX12_orders_94 rfl fl_X12_70 e22 (fun r22 => ?_)
      refine j_iload_n (i := 1) (pc' := 98) dX12_orders_97 rfl rfl 1 rfl ?_
      refine j_iload (pc' := 100) dX12_orders_98 rfl 4 rfl ?_
      obtain ⟨h23, e23, H⟩ := bs H
      refine j_iast (pc' := 101) dX12_orders_100 rfl r17 e23 ?_
      obtain ⟨u24, e24, H⟩ := bs H
      have r24 := c32_R e24
      refine j_iinc (k0 := 3) (lv' := [(0, vr x0), (1, vi x1), (2, vl (x2 + p14.1)), (4, vi (x4 + 1)), (5, vi v17)]) (pc' := 104) dX12_orders_101 rfl rfl (by decide) [1, 2, 3, 0, 4] rfl ?_
      refine j_goto (tgt := 22) dX12_orders_104 (by decide) ?_
      refine j_sub (lv' := [(0, vr x0), (1, vi x1), (2, vl (x2 + p14.1)), (4, vi (x4 + 1))]) [0, 1, 2, 3] rfl ?_
      exact ih x0 x1 (x2 + p14.1) (x4 + 1) h23 rx1 r15 r24 H
noncomputable def fX12_orders : Nat → Nat → Int → Hp → Option (Int × Hp)
  | 0, _, _, _ => none
  | n + 1, a0, a1, h => (cob h 11 a0).bind fun _ => (fX12_n a0 h).bind fun p2 => if a1 = p2.1 then ((getR p2.2 11 a0 24).bind fun v4 => (cob p2.2 11 a0).bind fun _ => (fX12_gather a0 v4 p2.2).bind fun p6 => some (p6.1, p6.2)) else (fX12_orders_22 (fX12_orders n) FU a0 a1 0 a1 p2.2)
theorem tX12_orders_r {L : Nat} {xs : Nat → Int32} {l : Launch} : ∀ (n : Nat) (res : Int × Hp) (a0 : Nat) (a1 : Int) (h : Hp), R32 a1 → fX12_orders n a0 a1 h = some res → J L xs l RX12 cX12_orders 6 false (5 + n) (QL res) 0 0 0 (alv 0 [vr a0, vi a1]) [] h := by
  intro n
  induction n with
  | zero => intro res a0 a1 h ra1 H; cases H
  | succ n ih =>
    intro res a0 a1 h ra1 H
    rw [fX12_orders] at H
    have hdS : 5 ≤ 5 + n := Nat.le_add_right _ _
    have hs := ih
    show J L xs l RX12 cX12_orders 6 false (5 + n + 1) (QL res) 0 0 0 [(0, vr a0), (1, vi a1)] [] h
    refine j_iload_n (i := 1) (pc' := 1) dX12_orders_0 rfl rfl 1 rfl ?_
    refine j_aload_n (i := 0) (pc' := 2) dX12_orders_1 rfl rfl 0 rfl ?_
    obtain ⟨u1, e1, H⟩ := bs H
    obtain ⟨p2, e2, H⟩ := bs H
    refine j_cVi (y := yX12_n) (dY := 1) (vs := []) (st := [vi a1]) (q := a0) (pc' := 5) dX12_orders_2 rfl ymX12_n yvX12_n ml_X12_90 (by omega) rfl (Nat.le_of_ble_eq_true rfl) (Nat.le_of_ble_eq_true rfl) e1 (tX12_n a0 h e2) (fun r2 z2 => ?_)
    refine j_icmp_ne (tgt := 17) (pc' := 8) dX12_orders_5 (by decide) rfl ra1 r2 (fun c3 => ?_) (fun c3 => ?_)
    · rw [if_neg c3] at H
      refine j_lconst (z := 0) (pc' := 18) dX12_orders_17 rfl rfl ?_
      refine j_lstore_n (i := 2) (lv' := [(0, vr a0), (1, vi a1), (2, vl 0)]) (pc' := 19) dX12_orders_18 rfl rfl (by decide) [1, 2, 0] rfl ?_
      refine j_iload_n (i := 1) (pc' := 20) dX12_orders_19 rfl rfl 1 rfl ?_
      refine j_istore (lv' := [(0, vr a0), (1, vi a1), (2, vl 0), (4, vi a1)]) (pc' := 22) dX12_orders_20 rfl (by decide) [1, 2, 3, 0] rfl ?_
      exact tX12_orders_22 hdS _ hs FU a0 a1 0 a1 p2.2 ra1 ⟨by decide, by decide⟩ ra1 H
    · rw [if_pos c3] at H
      refine j_aload_n (i := 0) (pc' := 9) dX12_orders_8 rfl rfl 0 rfl ?_
      refine j_aload_n (i := 0) (pc' := 10) dX12_orders_9 rfl rfl 0 rfl ?_
      obtain ⟨v4, e4, H⟩ := bs H
      refine j_getR (pc' := 13) dX12_orders_10 rfl fl_X12_70 e4 (fun r4 => ?_)
      obtain ⟨u5, e5, H⟩ := bs H
      obtain ⟨p6, e6, H⟩ := bs H
      refine j_cVl (y := yX12_gather) (dY := 5) (vs := [vr v4]) (st := []) (q := a0) (pc' := 16) dX12_orders_13 rfl ymX12_gather yvX12_gather ml_X12_193 (by omega) rfl (Nat.le_of_ble_eq_true rfl) (Nat.le_of_ble_eq_true rfl) e5 (tX12_gather a0 v4 p2.2 e6) (fun r6 z6 => ?_)
      obtain rfl := Option.some.inj H
      exact j_lret dX12_orders_16 r6 ⟨rfl, rfl⟩
theorem tX12_orders {L : Nat} {xs : Nat → Int32} {l : Launch} {res : Int × Hp} (a0 : Nat) (a1 : Int) (h : Hp) (ra1 : R32 a1) (H : fX12_orders 20 a0 a1 h = some res) : J L xs l RX12 cX12_orders 6 false 25 (QL res) 0 0 0 (alv 0 [vr a0, vi a1]) [] h := tX12_orders_r 20 res a0 a1 h ra1 H
-- X12_thirds
noncomputable def fX12_thirds_44 (x0 : Nat) (h : Hp) : Option (Int × Hp) :=
  (cob h 11 x0).bind fun _ => (fX12_orders 20 x0 0 h).bind fun p2 => some (p2.1, p2.2)
theorem tX12_thirds_44 {L : Nat} {xs : Nat → Int32} {l : Launch} {res : Int × Hp} (x0 : Nat) (h : Hp)  (H : fX12_thirds_44 x0 h = some res) : J L xs l RX12 cX12_thirds 2 false 26 (QL res) 0 0 44 [(0, vr x0)] [] h := by
  unfold fX12_thirds_44 at H
  refine j_aload_n (i := 0) (pc' := 45) dX12_thirds_44 rfl rfl 0 rfl ?_
  refine j_iconst (pc' := 46) dX12_thirds_45 rfl ?_
  obtain ⟨u1, e1, H⟩ := bs H
  obtain ⟨p2, e2, H⟩ := bs H
  refine j_cVl (y := yX12_orders) (dY := 25) (vs := [vi 0]) (st := []) (q := x0) (pc' := 49) dX12_thirds_46 rfl ymX12_orders yvX12_orders ml_X12_197 (by decide) rfl (Nat.le_of_ble_eq_true rfl) (Nat.le_of_ble_eq_true rfl) e1 (tX12_orders x0 0 h ⟨by decide, by decide⟩ e2) (fun r2 z2 => ?_)
  obtain rfl := Option.some.inj H
  exact j_lret dX12_thirds_49 r2 ⟨rfl, rfl⟩
noncomputable def fX12_thirds_23 : Nat → Nat → Int → Hp → Option (Int × Hp)
  | 0, _, _, _ => none
  | n + 1, x0, x1, h => (cob h 11 x0).bind fun _ => (fX12_n x0 h).bind fun p2 => if p2.1 ≤ x1 then (fX12_thirds_44 x0 p2.2) else ((getR p2.2 11 x0 24).bind fun v4 => (ast p2.2 0 v4 x1 x1).bind fun h5 => (c32 (x1 + 1)).bind fun _ => fX12_thirds_23 n x0 (x1 + 1) h5)
theorem tX12_thirds_23 {L : Nat} {xs : Nat → Int32} {l : Launch} {res : Int × Hp} : ∀ (n : Nat) (x0 : Nat) (x1 : Int) (h : Hp), R32 x1 → fX12_thirds_23 n x0 x1 h = some res → J L xs l RX12 cX12_thirds 2 false 26 (QL res) 0 0 23 [(0, vr x0), (1, vi x1)] [] h := by
  intro n
  induction n with
  | zero => intro x0 x1 h rx1 H; cases H
  | succ n ih =>
    intro x0 x1 h rx1 H
    rw [fX12_thirds_23] at H
    refine j_iload_n (i := 1) (pc' := 24) dX12_thirds_23 rfl rfl 1 rfl ?_
    refine j_aload_n (i := 0) (pc' := 25) dX12_thirds_24 rfl rfl 0 rfl ?_
    obtain ⟨u1, e1, H⟩ := bs H
    obtain ⟨p2, e2, H⟩ := bs H
    refine j_cVi (y := yX12_n) (dY := 1) (vs := []) (st := [vi x1]) (q := x0) (pc' := 28) dX12_thirds_25 rfl ymX12_n yvX12_n ml_X12_90 (by decide) rfl (Nat.le_of_ble_eq_true rfl) (Nat.le_of_ble_eq_true rfl) e1 (tX12_n x0 h e2) (fun r2 z2 => ?_)
    refine j_icmp_ge (tgt := 44) (pc' := 31) dX12_thirds_28 (by decide) rfl rx1 r2 (fun c3 => ?_) (fun c3 => ?_)
    · rw [if_pos c3] at H
      refine j_sub (lv' := [(0, vr x0)]) [0] rfl ?_
      exact tX12_thirds_44   x0 p2.2  H
    · rw [if_neg c3] at H
      refine j_aload_n (i := 0) (pc' := 32) dX12_thirds_31 rfl rfl 0 rfl ?_
      obtain ⟨v4, e4, H⟩ := bs H
      refine j_getR (pc' := 35) dX12_thirds_32 rfl fl_X12_70 e4 (fun r4 => ?_)
      refine j_iload_n (i := 1) (pc' := 36) dX12_thirds_35 rfl rfl 1 rfl ?_
      refine j_iload_n (i := 1) (pc' := 37) dX12_thirds_36 rfl rfl 1 rfl ?_
      obtain ⟨h5, e5, H⟩ := bs H
      refine j_iast (pc' := 38) dX12_thirds_37 rfl rx1 e5 ?_
      obtain ⟨u6, e6, H⟩ := bs H
      have r6 := c32_R e6
      refine j_iinc (k0 := 1) (lv' := [(0, vr x0), (1, vi (x1 + 1))]) (pc' := 41) dX12_thirds_38 rfl rfl (by decide) [1, 0] rfl ?_
      refine j_goto (tgt := 23) dX12_thirds_41 (by decide) ?_
      exact ih x0 (x1 + 1) h5 r6 H
noncomputable def fX12_thirds (a0 : Nat) (h : Hp) : Option (Int × Hp) :=
  (putV h 11 a0 19 (vi 0)).bind fun h1 => (cob h1 11 a0).bind fun _ => (fX12_n a0 h1).bind fun p3 => if p3.1 ≤ 7 then (fX12_thirds_23 FU a0 0 p3.2) else ((cob p3.2 11 a0).bind fun _ => (fX12_no a0 3 p3.2).bind fun p6 => some (p6.1, p6.2))
theorem tX12_thirds {L : Nat} {xs : Nat → Int32} {l : Launch} {res : Int × Hp} (a0 : Nat) (h : Hp)  (H : fX12_thirds a0 h = some res) : J L xs l RX12 cX12_thirds 2 false 26 (QL res) 0 0 0 (alv 0 [vr a0]) [] h := by
  unfold fX12_thirds at H
  show J L xs l RX12 cX12_thirds 2 false 26 (QL res) 0 0 0 [(0, vr a0)] [] h
  refine j_aload_n (i := 0) (pc' := 1) dX12_thirds_0 rfl rfl 0 rfl ?_
  refine j_iconst (pc' := 2) dX12_thirds_1 rfl ?_
  obtain ⟨h1, e1, H⟩ := bs H
  refine j_putV (pc' := 5) dX12_thirds_2 rfl fp_X12_77 tI ⟨by decide, by decide⟩ e1 ?_
  refine j_aload_n (i := 0) (pc' := 6) dX12_thirds_5 rfl rfl 0 rfl ?_
  obtain ⟨u2, e2, H⟩ := bs H
  obtain ⟨p3, e3, H⟩ := bs H
  refine j_cVi (y := yX12_n) (dY := 1) (vs := []) (st := []) (q := a0) (pc' := 9) dX12_thirds_6 rfl ymX12_n yvX12_n ml_X12_90 (by decide) rfl (Nat.le_of_ble_eq_true rfl) (Nat.le_of_ble_eq_true rfl) e2 (tX12_n a0 h1 e3) (fun r3 z3 => ?_)
  refine j_bipush (pc' := 11) dX12_thirds_9 rfl (by decide +kernel) ?_
  refine j_icmp_le (tgt := 21) (pc' := 14) dX12_thirds_11 (by decide) rfl r3 ⟨by decide, by decide⟩ (fun c4 => ?_) (fun c4 => ?_)
  · rw [if_pos c4] at H
    refine j_iconst (pc' := 22) dX12_thirds_21 rfl ?_
    refine j_istore_n (i := 1) (lv' := [(0, vr a0), (1, vi 0)]) (pc' := 23) dX12_thirds_22 rfl rfl (by decide) [1, 0] rfl ?_
    exact tX12_thirds_23   FU a0 0 p3.2 ⟨by decide, by decide⟩ H
  · rw [if_neg c4] at H
    refine j_aload_n (i := 0) (pc' := 15) dX12_thirds_14 rfl rfl 0 rfl ?_
    refine j_iconst (pc' := 16) dX12_thirds_15 rfl ?_
    obtain ⟨u5, e5, H⟩ := bs H
    obtain ⟨p6, e6, H⟩ := bs H
    refine j_cVi (y := yX12_no) (dY := 1) (vs := [vi 3]) (st := []) (q := a0) (pc' := 19) dX12_thirds_16 rfl ymX12_no yvX12_no ml_X12_98 (by decide) rfl (Nat.le_of_ble_eq_true rfl) (Nat.le_of_ble_eq_true rfl) e5 (tX12_no a0 3 p3.2 ⟨by decide, by decide⟩ e6) (fun r6 z6 => ?_)
    refine j_i2l (pc' := 20) dX12_thirds_19 rfl r6 ?_
    obtain rfl := Option.some.inj H
    exact j_lret dX12_thirds_20 (R32_l r6) ⟨rfl, rfl⟩
-- X12_rounds
noncomputable def fX12_rounds_165 (x1 : Int) (h : Hp) : Option (Int × Hp) :=
  some (x1, h)
theorem tX12_rounds_165 {L : Nat} {xs : Nat → Int32} {l : Launch} {res : Int × Hp} (x1 : Int) (h : Hp) (rx1 : R32 x1) (H : fX12_rounds_165 x1 h = some res) : J L xs l RX12 cX12_rounds 6 false 2 (QI res) 0 0 165 [(1, vi x1)] [] h := by
  unfold fX12_rounds_165 at H
  refine j_iload_n (i := 1) (pc' := 166) dX12_rounds_165 rfl rfl 0 rfl ?_
  obtain rfl := Option.some.inj H
  exact j_iret dX12_rounds_166 rx1 ⟨rfl, rfl⟩
noncomputable def fX12_rounds_159 (k9 : Nat → Int → Int → Hp → Option (Int × Hp)) (x0 : Nat) (x1 : Int) (x2 : Int) (h : Hp) : Option (Int × Hp) :=
  (c32 (x2 + 1)).bind fun _ => k9 x0 x1 (x2 + 1) h
theorem tX12_rounds_159 {L : Nat} {xs : Nat → Int32} {l : Launch} {res : Int × Hp} (k9 : Nat → Int → Int → Hp → Option (Int × Hp)) (hk9 : ∀ (x0 : Nat) (x1 : Int) (x2 : Int) (h : Hp), R32 x1 → R32 x2 → k9 x0 x1 x2 h = some res → J L xs l RX12 cX12_rounds 6 false 2 (QI res) 0 0 9 [(0, vr x0), (1, vi x1), (2, vi x2)] [] h) (x0 : Nat) (x1 : Int) (x2 : Int) (h : Hp) (rx1 : R32 x1) (rx2 : R32 x2) (H : fX12_rounds_159 k9 x0 x1 x2 h = some res) : J L xs l RX12 cX12_rounds 6 false 2 (QI res) 0 0 159 [(0, vr x0), (1, vi x1), (2, vi x2)] [] h := by
  unfold fX12_rounds_159 at H
  obtain ⟨u1, e1, H⟩ := bs H
  have r1 := c32_R e1
  refine j_iinc (k0 := 2) (lv' := [(0, vr x0), (1, vi x1), (2, vi (x2 + 1))]) (pc' := 162) dX12_rounds_159 rfl rfl (by decide) [1, 2, 0] rfl ?_
  refine j_goto (tgt := 9) dX12_rounds_162 (by decide) ?_
  exact hk9 x0 x1 (x2 + 1) h rx1 r1 H
noncomputable def fX12_rounds_153 (k9 : Nat → Int → Int → Hp → Option (Int × Hp)) (k21 : Nat → Int → Int → Int → Hp → Option (Int × Hp)) (x0 : Nat) (x1 : Int) (x2 : Int) (x3 : Int) (h : Hp) : Option (Int × Hp) :=
  (c32 (x3 + 1)).bind fun _ => k21 x0 x1 x2 (x3 + 1) h
theorem tX12_rounds_153 {L : Nat} {xs : Nat → Int32} {l : Launch} {res : Int × Hp} (k9 : Nat → Int → Int → Hp → Option (Int × Hp)) (k21 : Nat → Int → Int → Int → Hp → Option (Int × Hp)) (hk9 : ∀ (x0 : Nat) (x1 : Int) (x2 : Int) (h : Hp), R32 x1 → R32 x2 → k9 x0 x1 x2 h = some res → J L xs l RX12 cX12_rounds 6 false 2 (QI res) 0 0 9 [(0, vr x0), (1, vi x1), (2, vi x2)] [] h) (hk21 : ∀ (x0 : Nat) (x1 : Int) (x2 : Int) (x3 : Int) (h : Hp), R32 x1 → R32 x2 → R32 x3 → k21 x0 x1 x2 x3 h = some res → J L xs l RX12 cX12_rounds 6 false 2 (QI res) 0 0 21 [(0, vr x0), (1, vi x1), (2, vi x2), (3, vi x3)] [] h) (x0 : Nat) (x1 : Int) (x2 : Int) (x3 : Int) (h : Hp) (rx1 : R32 x1) (rx2 : R32 x2) (rx3 : R32 x3) (H : fX12_rounds_153 k9 k21 x0 x1 x2 x3 h = some res) : J L xs l RX12 cX12_rounds 6 false 2 (QI res) 0 0 153 [(0, vr x0), (1, vi x1), (2, vi x2), (3, vi x3)] [] h := by
  unfold fX12_rounds_153 at H
  obtain ⟨u1, e1, H⟩ := bs H
  have r1 := c32_R e1
  refine j_iinc (k0 := 3) (lv' := [(0, vr x0), (1, vi x1), (2, vi x2), (3, vi (x3 + 1))]) (pc' := 156) dX12_rounds_153 rfl rfl (by decide) [1, 2, 3, 0] rfl ?_
  refine j_goto (tgt := 21) dX12_rounds_156 (by decide) ?_
  exact hk21 x0 x1 x2 (x3 + 1) h rx1 rx2 r1 H
noncomputable def fX12_rounds_147 (k9 : Nat → Int → Int → Hp → Option (Int × Hp)) (k21 : Nat → Int → Int → Int → Hp → Option (Int × Hp)) (k34 : Nat → Int → Int → Int → Int → Hp → Option (Int × Hp)) (x0 : Nat) (x1 : Int) (x2 : Int) (x3 : Int) (x4 : Int) (h : Hp) : Option (Int × Hp) :=
  (c32 (x4 + 1)).bind fun _ => k34 x0 x1 x2 x3 (x4 + 1) h
theorem tX12_rounds_147 {L : Nat} {xs : Nat → Int32} {l : Launch} {res : Int × Hp} (k9 : Nat → Int → Int → Hp → Option (Int × Hp)) (k21 : Nat → Int → Int → Int → Hp → Option (Int × Hp)) (k34 : Nat → Int → Int → Int → Int → Hp → Option (Int × Hp)) (hk9 : ∀ (x0 : Nat) (x1 : Int) (x2 : Int) (h : Hp), R32 x1 → R32 x2 → k9 x0 x1 x2 h = some res → J L xs l RX12 cX12_rounds 6 false 2 (QI res) 0 0 9 [(0, vr x0), (1, vi x1), (2, vi x2)] [] h) (hk21 : ∀ (x0 : Nat) (x1 : Int) (x2 : Int) (x3 : Int) (h : Hp), R32 x1 → R32 x2 → R32 x3 → k21 x0 x1 x2 x3 h = some res → J L xs l RX12 cX12_rounds 6 false 2 (QI res) 0 0 21 [(0, vr x0), (1, vi x1), (2, vi x2), (3, vi x3)] [] h) (hk34 : ∀ (x0 : Nat) (x1 : Int) (x2 : Int) (x3 : Int) (x4 : Int) (h : Hp), R32 x1 → R32 x2 → R32 x3 → R32 x4 → k34 x0 x1 x2 x3 x4 h = some res → J L xs l RX12 cX12_rounds 6 false 2 (QI res) 0 0 34 [(0, vr x0), (1, vi x1), (2, vi x2), (3, vi x3), (4, vi x4)] [] h) (x0 : Nat) (x1 : Int) (x2 : Int) (x3 : Int) (x4 : Int) (h : Hp) (rx1 : R32 x1) (rx2 : R32 x2) (rx3 : R32 x3) (rx4 : R32 x4) (H : fX12_rounds_147 k9 k21 k34 x0 x1 x2 x3 x4 h = some res) : J L xs l RX12 cX12_rounds 6 false 2 (QI res) 0 0 147 [(0, vr x0), (1, vi x1), (2, vi x2), (3, vi x3), (4, vi x4)] [] h := by
  unfold fX12_rounds_147 at H
  obtain ⟨u1, e1, H⟩ := bs H
  have r1 := c32_R e1
  refine j_iinc (k0 := 4) (lv' := [(0, vr x0), (1, vi x1), (2, vi x2), (3, vi x3), (4, vi (x4 + 1))]) (pc' := 150) dX12_rounds_147 rfl rfl (by decide) [1, 2, 3, 4, 0] rfl ?_
  refine j_goto (tgt := 34) dX12_rounds_150 (by decide) ?_
  exact hk34 x0 x1 x2 x3 (x4 + 1) h rx1 rx2 rx3 r1 H
noncomputable def fX12_rounds_135 (k9 : Nat → Int → Int → Hp → Option (Int × Hp)) (k21 : Nat → Int → Int → Int → Hp → Option (Int × Hp)) (k34 : Nat → Int → Int → Int → Int → Hp → Option (Int × Hp)) (x0 : Nat) (x1 : Int) (x2 : Int) (x3 : Int) (x4 : Int) (s0 : Int) (s1 : Int) (h : Hp) : Option (Int × Hp) :=
  (c32 (s1 + s0)).bind fun _ => if (s1 + s0) = 2 then ((c32 (x1 + 1)).bind fun _ => fX12_rounds_147 k9 k21 k34 x0 (x1 + 1) x2 x3 x4 h) else (fX12_rounds_147 k9 k21 k34 x0 x1 x2 x3 x4 h)
theorem tX12_rounds_135 {L : Nat} {xs : Nat → Int32} {l : Launch} {res : Int × Hp} (k9 : Nat → Int → Int → Hp → Option (Int × Hp)) (k21 : Nat → Int → Int → Int → Hp → Option (Int × Hp)) (k34 : Nat → Int → Int → Int → Int → Hp → Option (Int × Hp)) (hk9 : ∀ (x0 : Nat) (x1 : Int) (x2 : Int) (h : Hp), R32 x1 → R32 x2 → k9 x0 x1 x2 h = some res → J L xs l RX12 cX12_rounds 6 false 2 (QI res) 0 0 9 [(0, vr x0), (1, vi x1), (2, vi x2)] [] h) (hk21 : ∀ (x0 : Nat) (x1 : Int) (x2 : Int) (x3 : Int) (h : Hp), R32 x1 → R32 x2 → R32 x3 → k21 x0 x1 x2 x3 h = some res → J L xs l RX12 cX12_rounds 6 false 2 (QI res) 0 0 21 [(0, vr x0), (1, vi x1), (2, vi x2), (3, vi x3)] [] h) (hk34 : ∀ (x0 : Nat) (x1 : Int) (x2 : Int) (x3 : Int) (x4 : Int) (h : Hp), R32 x1 → R32 x2 → R32 x3 → R32 x4 → k34 x0 x1 x2 x3 x4 h = some res → J L xs l RX12 cX12_rounds 6 false 2 (QI res) 0 0 34 [(0, vr x0), (1, vi x1), (2, vi x2), (3, vi x3), (4, vi x4)] [] h) (x0 : Nat) (x1 : Int) (x2 : Int) (x3 : Int) (x4 : Int) (s0 : Int) (s1 : Int) (h : Hp) (rx1 : R32 x1) (rx2 : R32 x2) (rx3 : R32 x3) (rx4 : R32 x4) (rs0 : R32 s0) (rs1 : R32 s1) (H : fX12_rounds_135 k9 k21 k34 x0 x1 x2 x3 x4 s0 s1 h = some res) : J L xs l RX12 cX12_rounds 6 false 2 (QI res) 0 0 135 [(0, vr x0), (1, vi x1), (2, vi x2), (3, vi x3), (4, vi x4)] [vi s0, vi s1] h := by
  unfold fX12_rounds_135 at H
  refine j_iadd (pc' := 136) dX12_rounds_135 rfl ?_
  obtain ⟨u1, e1, H⟩ := bs H
  have r1 := c32_R e1
  refine j_istore (lv' := [(0, vr x0), (1, vi x1), (2, vi x2), (3, vi x3), (4, vi x4), (5, vi (s1 + s0))]) (pc' := 138) dX12_rounds_136 rfl (by decide) [1, 2, 3, 4, 5, 0] rfl ?_
  refine j_iload (pc' := 140) dX12_rounds_138 rfl 5 rfl ?_
  refine j_iconst (pc' := 141) dX12_rounds_140 rfl ?_
  refine j_icmp_ne (tgt := 147) (pc' := 144) dX12_rounds_141 (by decide) rfl r1 ⟨by decide, by decide⟩ (fun c2 => ?_) (fun c2 => ?_)
  · rw [if_neg c2] at H
    refine j_sub (lv' := [(0, vr x0), (1, vi x1), (2, vi x2), (3, vi x3), (4, vi x4)]) [0, 1, 2, 3, 4] rfl ?_
    exact tX12_rounds_147 _ _ _ hk9 hk21 hk34 x0 x1 x2 x3 x4 h rx1 rx2 rx3 rx4 H
  · rw [if_pos c2] at H
    obtain ⟨u3, e3, H⟩ := bs H
    have r3 := c32_R e3
    refine j_iinc (k0 := 1) (lv' := [(0, vr x0), (1, vi (x1 + 1)), (2, vi x2), (3, vi x3), (4, vi x4), (5, vi (s1 + s0))]) (pc' := 147) dX12_rounds_144 rfl rfl (by decide) [1, 0, 2, 3, 4, 5] rfl ?_
    refine j_sub (lv' := [(0, vr x0), (1, vi (x1 + 1)), (2, vi x2), (3, vi x3), (4, vi x4)]) [0, 1, 2, 3, 4] rfl ?_
    exact tX12_rounds_147 _ _ _ hk9 hk21 hk34 x0 (x1 + 1) x2 x3 x4 h r3 rx2 rx3 rx4 H
noncomputable def fX12_rounds_119 (k9 : Nat → Int → Int → Hp → Option (Int × Hp)) (k21 : Nat → Int → Int → Int → Hp → Option (Int × Hp)) (k34 : Nat → Int → Int → Int → Int → Hp → Option (Int × Hp)) (x0 : Nat) (x1 : Int) (x2 : Int) (x3 : Int) (x4 : Int) (s0 : Int) (s1 : Int) (h : Hp) : Option (Int × Hp) :=
  (cob h 11 x0).bind fun _ => (fX12_like x0 x3 x4 h).bind fun p2 => if p2.1 = 0 then ((c32 (s1 + s0)).bind fun _ => fX12_rounds_135 k9 k21 k34 x0 x1 x2 x3 x4 0 (s1 + s0) p2.2) else ((c32 (s1 + s0)).bind fun _ => fX12_rounds_135 k9 k21 k34 x0 x1 x2 x3 x4 1 (s1 + s0) p2.2)
theorem tX12_rounds_119 {L : Nat} {xs : Nat → Int32} {l : Launch} {res : Int × Hp} (k9 : Nat → Int → Int → Hp → Option (Int × Hp)) (k21 : Nat → Int → Int → Int → Hp → Option (Int × Hp)) (k34 : Nat → Int → Int → Int → Int → Hp → Option (Int × Hp)) (hk9 : ∀ (x0 : Nat) (x1 : Int) (x2 : Int) (h : Hp), R32 x1 → R32 x2 → k9 x0 x1 x2 h = some res → J L xs l RX12 cX12_rounds 6 false 2 (QI res) 0 0 9 [(0, vr x0), (1, vi x1), (2, vi x2)] [] h) (hk21 : ∀ (x0 : Nat) (x1 : Int) (x2 : Int) (x3 : Int) (h : Hp), R32 x1 → R32 x2 → R32 x3 → k21 x0 x1 x2 x3 h = some res → J L xs l RX12 cX12_rounds 6 false 2 (QI res) 0 0 21 [(0, vr x0), (1, vi x1), (2, vi x2), (3, vi x3)] [] h) (hk34 : ∀ (x0 : Nat) (x1 : Int) (x2 : Int) (x3 : Int) (x4 : Int) (h : Hp), R32 x1 → R32 x2 → R32 x3 → R32 x4 → k34 x0 x1 x2 x3 x4 h = some res → J L xs l RX12 cX12_rounds 6 false 2 (QI res) 0 0 34 [(0, vr x0), (1, vi x1), (2, vi x2), (3, vi x3), (4, vi x4)] [] h) (x0 : Nat) (x1 : Int) (x2 : Int) (x3 : Int) (x4 : Int) (s0 : Int) (s1 : Int) (h : Hp) (rx1 : R32 x1) (rx2 : R32 x2) (rx3 : R32 x3) (rx4 : R32 x4) (rs0 : R32 s0) (rs1 : R32 s1) (H : fX12_rounds_119 k9 k21 k34 x0 x1 x2 x3 x4 s0 s1 h = some res) : J L xs l RX12 cX12_rounds 6 false 2 (QI res) 0 0 119 [(0, vr x0), (1, vi x1), (2, vi x2), (3, vi x3), (4, vi x4)] [vi s0, vi s1] h := by
  unfold fX12_rounds_119 at H
  refine j_iadd (pc' := 120) dX12_rounds_119 rfl ?_
  refine j_aload_n (i := 0) (pc' := 121) dX12_rounds_120 rfl rfl 0 rfl ?_
  refine j_iload_n (i := 3) (pc' := 122) dX12_rounds_121 rfl rfl 3 rfl ?_
  refine j_iload (pc' := 124) dX12_rounds_122 rfl 4 rfl ?_
  obtain ⟨u1, e1, H⟩ := bs H
  obtain ⟨p2, e2, H⟩ := bs H
  refine j_cVb (y := yX12_like) (dY := 1) (vs := [vi x3, vi x4]) (st := [vi (s1 + s0)]) (q := x0) (pc' := 127) dX12_rounds_124 rfl ymX12_like yvX12_like ml_X12_189 (by decide) rfl (Nat.le_of_ble_eq_true rfl) (Nat.le_of_ble_eq_true rfl) e1 (tX12_like x0 x3 x4 h rx3 rx4 e2) (fun r2 b2 z2 => ?_)
  refine j_if_eq (tgt := 134) (pc' := 130) dX12_rounds_127 (by decide) rfl r2 (fun c3 => ?_) (fun c3 => ?_)
  · rw [if_pos c3] at H
    refine j_iconst (pc' := 135) dX12_rounds_134 rfl ?_
    obtain ⟨u4, e4, H⟩ := bs H
    have r4 := c32_R e4
    exact tX12_rounds_135 _ _ _ hk9 hk21 hk34 x0 x1 x2 x3 x4 0 (s1 + s0) p2.2 rx1 rx2 rx3 rx4 ⟨by decide, by decide⟩ r4 H
  · rw [if_neg c3] at H
    refine j_iconst (pc' := 131) dX12_rounds_130 rfl ?_
    refine j_goto (tgt := 135) dX12_rounds_131 (by decide) ?_
    obtain ⟨u5, e5, H⟩ := bs H
    have r5 := c32_R e5
    exact tX12_rounds_135 _ _ _ hk9 hk21 hk34 x0 x1 x2 x3 x4 1 (s1 + s0) p2.2 rx1 rx2 rx3 rx4 ⟨by decide, by decide⟩ r5 H
noncomputable def fX12_rounds_104 (k9 : Nat → Int → Int → Hp → Option (Int × Hp)) (k21 : Nat → Int → Int → Int → Hp → Option (Int × Hp)) (k34 : Nat → Int → Int → Int → Int → Hp → Option (Int × Hp)) (x0 : Nat) (x1 : Int) (x2 : Int) (x3 : Int) (x4 : Int) (s0 : Int) (h : Hp) : Option (Int × Hp) :=
  (cob h 11 x0).bind fun _ => (fX12_like x0 x2 x4 h).bind fun p2 => if p2.1 = 0 then (fX12_rounds_119 k9 k21 k34 x0 x1 x2 x3 x4 0 s0 p2.2) else (fX12_rounds_119 k9 k21 k34 x0 x1 x2 x3 x4 1 s0 p2.2)
theorem tX12_rounds_104 {L : Nat} {xs : Nat → Int32} {l : Launch} {res : Int × Hp} (k9 : Nat → Int → Int → Hp → Option (Int × Hp)) (k21 : Nat → Int → Int → Int → Hp → Option (Int × Hp)) (k34 : Nat → Int → Int → Int → Int → Hp → Option (Int × Hp)) (hk9 : ∀ (x0 : Nat) (x1 : Int) (x2 : Int) (h : Hp), R32 x1 → R32 x2 → k9 x0 x1 x2 h = some res → J L xs l RX12 cX12_rounds 6 false 2 (QI res) 0 0 9 [(0, vr x0), (1, vi x1), (2, vi x2)] [] h) (hk21 : ∀ (x0 : Nat) (x1 : Int) (x2 : Int) (x3 : Int) (h : Hp), R32 x1 → R32 x2 → R32 x3 → k21 x0 x1 x2 x3 h = some res → J L xs l RX12 cX12_rounds 6 false 2 (QI res) 0 0 21 [(0, vr x0), (1, vi x1), (2, vi x2), (3, vi x3)] [] h) (hk34 : ∀ (x0 : Nat) (x1 : Int) (x2 : Int) (x3 : Int) (x4 : Int) (h : Hp), R32 x1 → R32 x2 → R32 x3 → R32 x4 → k34 x0 x1 x2 x3 x4 h = some res → J L xs l RX12 cX12_rounds 6 false 2 (QI res) 0 0 34 [(0, vr x0), (1, vi x1), (2, vi x2), (3, vi x3), (4, vi x4)] [] h) (x0 : Nat) (x1 : Int) (x2 : Int) (x3 : Int) (x4 : Int) (s0 : Int) (h : Hp) (rx1 : R32 x1) (rx2 : R32 x2) (rx3 : R32 x3) (rx4 : R32 x4) (rs0 : R32 s0) (H : fX12_rounds_104 k9 k21 k34 x0 x1 x2 x3 x4 s0 h = some res) : J L xs l RX12 cX12_rounds 6 false 2 (QI res) 0 0 104 [(0, vr x0), (1, vi x1), (2, vi x2), (3, vi x3), (4, vi x4)] [vi s0] h := by
  unfold fX12_rounds_104 at H
  refine j_aload_n (i := 0) (pc' := 105) dX12_rounds_104 rfl rfl 0 rfl ?_
  refine j_iload_n (i := 2) (pc' := 106) dX12_rounds_105 rfl rfl 2 rfl ?_
  refine j_iload (pc' := 108) dX12_rounds_106 rfl 4 rfl ?_
  obtain ⟨u1, e1, H⟩ := bs H
  obtain ⟨p2, e2, H⟩ := bs H
  refine j_cVb (y := yX12_like) (dY := 1) (vs := [vi x2, vi x4]) (st := [vi s0]) (q := x0) (pc' := 111) dX12_rounds_108 rfl ymX12_like yvX12_like ml_X12_189 (by decide) rfl (Nat.le_of_ble_eq_true rfl) (Nat.le_of_ble_eq_true rfl) e1 (tX12_like x0 x2 x4 h rx2 rx4 e2) (fun r2 b2 z2 => ?_)
  refine j_if_eq (tgt := 118) (pc' := 114) dX12_rounds_111 (by decide) rfl r2 (fun c3 => ?_) (fun c3 => ?_)
  · rw [if_pos c3] at H
    refine j_iconst (pc' := 119) dX12_rounds_118 rfl ?_
    exact tX12_rounds_119 _ _ _ hk9 hk21 hk34 x0 x1 x2 x3 x4 0 s0 p2.2 rx1 rx2 rx3 rx4 ⟨by decide, by decide⟩ rs0 H
  · rw [if_neg c3] at H
    refine j_iconst (pc' := 115) dX12_rounds_114 rfl ?_
    refine j_goto (tgt := 119) dX12_rounds_115 (by decide) ?_
    exact tX12_rounds_119 _ _ _ hk9 hk21 hk34 x0 x1 x2 x3 x4 1 s0 p2.2 rx1 rx2 rx3 rx4 ⟨by decide, by decide⟩ rs0 H
noncomputable def fX12_rounds_34 (k9 : Nat → Int → Int → Hp → Option (Int × Hp)) (k21 : Nat → Int → Int → Int → Hp → Option (Int × Hp)) : Nat → Nat → Int → Int → Int → Int → Hp → Option (Int × Hp)
  | 0, _, _, _, _, _, _ => none
  | n + 1, x0, x1, x2, x3, x4, h => (cob h 11 x0).bind fun _ => (fX12_n x0 h).bind fun p2 => if p2.1 ≤ x4 then (fX12_rounds_153 k9 k21 x0 x1 x2 x3 p2.2) else ((getR p2.2 11 x0 3).bind fun v4 => (ald p2.2 0 v4 ((12 * x2) + x3)).bind fun v5 => if v5 = 0 then (fX12_rounds_147 k9 k21 (fX12_rounds_34 k9 k21 n) x0 x1 x2 x3 x4 p2.2) else ((getR p2.2 11 x0 3).bind fun v7 => (ald p2.2 0 v7 ((12 * x2) + x4)).bind fun v8 => if v8 = 0 then (fX12_rounds_147 k9 k21 (fX12_rounds_34 k9 k21 n) x0 x1 x2 x3 x4 p2.2) else ((getR p2.2 11 x0 3).bind fun v10 => (ald p2.2 0 v10 ((12 * x3) + x4)).bind fun v11 => if v11 = 0 then (fX12_rounds_147 k9 k21 (fX12_rounds_34 k9 k21 n) x0 x1 x2 x3 x4 p2.2) else ((cob p2.2 11 x0).bind fun _ => (fX12_like x0 x2 x3 p2.2).bind fun p14 => if p14.1 = 0 then (fX12_rounds_104 k9 k21 (fX12_rounds_34 k9 k21 n) x0 x1 x2 x3 x4 0 p14.2) else (fX12_rounds_104 k9 k21 (fX12_rounds_34 k9 k21 n) x0 x1 x2 x3 x4 1 p14.2)))))
theorem tX12_rounds_34 {L : Nat} {xs : Nat → Int32} {l : Launch} {res : Int × Hp} (k9 : Nat → Int → Int → Hp → Option (Int × Hp)) (k21 : Nat → Int → Int → Int → Hp → Option (Int × Hp)) (hk9 : ∀ (x0 : Nat) (x1 : Int) (x2 : Int) (h : Hp), R32 x1 → R32 x2 → k9 x0 x1 x2 h = some res → J L xs l RX12 cX12_rounds 6 false 2 (QI res) 0 0 9 [(0, vr x0), (1, vi x1), (2, vi x2)] [] h) (hk21 : ∀ (x0 : Nat) (x1 : Int) (x2 : Int) (x3 : Int) (h : Hp), R32 x1 → R32 x2 → R32 x3 → k21 x0 x1 x2 x3 h = some res → J L xs l RX12 cX12_rounds 6 false 2 (QI res) 0 0 21 [(0, vr x0), (1, vi x1), (2, vi x2), (3, vi x3)] [] h) : ∀ (n : Nat) (x0 : Nat) (x1 : Int) (x2 : Int) (x3 : Int) (x4 : Int) (h : Hp), R32 x1 → R32 x2 → R32 x3 → R32 x4 → fX12_rounds_34 k9 k21 n x0 x1 x2 x3 x4 h = some res → J L xs l RX12 cX12_rounds 6 false 2 (QI res) 0 0 34 [(0, vr x0), (1, vi x1), (2, vi x2), (3, vi x3), (4, vi x4)] [] h := by
  intro n
  induction n with
  | zero => intro x0 x1 x2 x3 x4 h rx1 rx2 rx3 rx4 H; cases H
  | succ n ih =>
    intro x0 x1 x2 x3 x4 h rx1 rx2 rx3 rx4 H
    rw [fX12_rounds_34] at H
    refine j_iload (pc' := 36) dX12_rounds_34 rfl 4 rfl ?_
    refine j_aload_n (i := 0) (pc' := 37) dX12_rounds_36 rfl rfl 0 rfl ?_
    obtain ⟨u1, e1, H⟩ := bs H
    obtain ⟨p2, e2, H⟩ := bs H
    refine j_cVi (y := yX12_n) (dY := 1) (vs := []) (st := [vi x4]) (q := x0) (pc' := 40) dX12_rounds_37 rfl ymX12_n yvX12_n ml_X12_90 (by decide) rfl (Nat.le_of_ble_eq_true rfl) (Nat.le_of_ble_eq_true rfl) e1 (tX12_n x0 h e2) (fun r2 z2 => ?_)
    refine j_icmp_ge (tgt := 153) (pc' := 43) dX12_rounds_40 (by decide) rfl rx4 r2 (fun c3 => ?_) (fun c3 => ?_)
    · rw [if_pos c3] at H
      refine j_sub (lv' := [(0, vr x0), (1, vi x1), (2, vi x2), (3, vi x3)]) [0, 1, 2, 3] rfl ?_
      exact tX12_rounds_153 _ _ hk9 hk21 x0 x1 x2 x3 p2.2 rx1 rx2 rx3 H
    · rw [if_neg c3] at H
      refine j_aload_n (i := 0) (pc' := 44) dX12_rounds_43 rfl rfl 0 rfl ?_
      obtain ⟨v4, e4, H⟩ := bs H
      refine j_getR (pc' := 47) dX12_rounds_44 rfl fl_X12_19 e4 (fun r4 => ?_)
      refine j_bipush (pc' := 49) dX12_rounds_47 rfl (by decide +kernel) ?_
      refine j_iload_n (i := 2) (pc' := 50) dX12_rounds_49 rfl rfl 2 rfl ?_
      refine j_imul (pc' := 51) dX12_rounds_50 rfl ?_
      refine j_iload_n (i := 3) (pc' := 52) dX12_rounds_51 rfl rfl 3 rfl ?_
      refine j_iadd (pc' := 53) dX12_rounds_52 rfl ?_
      obtain ⟨v5, e5, H⟩ := bs H
      refine j_iald (pc' := 54) dX12_rounds_53 rfl e5 (fun r5 => ?_)
      refine j_if_eq (tgt := 147) (pc' := 57) dX12_rounds_54 (by decide) rfl r5 (fun c6 => ?_) (fun c6 => ?_)
      · rw [if_pos c6] at H
        exact tX12_rounds_147 _ _ _ hk9 hk21 ih x0 x1 x2 x3 x4 p2.2 rx1 rx2 rx3 rx4 H
      · rw [if_neg c6] at H
        refine j_aload_n (i := 0) (pc' := 58) dX12_rounds_57 rfl rfl 0 rfl ?_
        obtain ⟨v7, e7, H⟩ := bs H
        refine j_getR (pc' := 61) dX12_rounds_58 rfl fl_X12_19 e7 (fun r7 => ?_)
        refine j_bipush (pc' := 63) dX12_rounds_61 rfl (by decide +kernel) ?_
        refine j_iload_n (i := 2) (pc' := 64) dX12_rounds_63 rfl rfl 2 rfl ?_
        refine j_imul (pc' := 65) dX12_rounds_64 rfl ?_
        refine j_iload (pc' := 67) dX12_rounds_65 rfl 4 rfl ?_
        refine j_iadd (pc' := 68) dX12_rounds_67 rfl ?_
        obtain ⟨v8, e8, H⟩ := bs H
        refine j_iald (pc' := 69) dX12_rounds_68 rfl e8 (fun r8 => ?_)
        refine j_if_eq (tgt := 147) (pc' := 72) dX12_rounds_69 (by decide) rfl r8 (fun c9 => ?_) (fun c9 => ?_)
        · rw [if_pos c9] at H
          exact tX12_rounds_147 _ _ _ hk9 hk21 ih x0 x1 x2 x3 x4 p2.2 rx1 rx2 rx3 rx4 H
        · rw [if_neg c9] at H
          refine j_aload_n (i := 0) (pc' := 73) dX12_rounds_72 rfl rfl 0 rfl ?_
          obtain ⟨v10, e10, H⟩ := bs H
          refine j_getR (pc' := 76) dX12_rounds_73 rfl fl_X12_19 e10 (fun r10 => ?_)
          refine j_bipush (pc' := 78) dX12_rounds_76 rfl (by decide +kernel) ?_
          refine j_iload_n (i := 3) (pc' := 79) dX12_rounds_78 rfl rfl 3 rfl ?_
          refine j_imul (pc' := 80) dX12_rounds_79 rfl ?_
          refine j_iload (pc' := 82) dX12_rounds_80 rfl 4 rfl ?_
          refine j_iadd (pc' := 83) dX12_rounds_82 rfl ?_
          obtain ⟨v11, e11, H⟩ := bs H
          refine j_iald (pc' := 84) dX12_rounds_83 rfl e11 (fun r11 => ?_)
          refine j_if_ne (tgt := 90) (pc' := 87) dX12_rounds_84 (by decide) rfl r11 (fun c12 => ?_) (fun c12 => ?_)
          · rw [if_neg c12] at H
            refine j_aload_n (i := 0) (pc' := 91) dX12_rounds_90 rfl rfl 0 rfl ?_
            refine j_iload_n (i := 2) (pc' := 92) dX12_rounds_91 rfl rfl 2 rfl ?_
            refine j_iload_n (i := 3) (pc' := 93) dX12_rounds_92 rfl rfl 3 rfl ?_
            obtain ⟨u13, e13, H⟩ := bs H
            obtain ⟨p14, e14, H⟩ := bs H
            refine j_cVb (y := yX12_like) (dY := 1) (vs := [vi x2, vi x3]) (st := []) (q := x0) (pc' := 96) dX12_rounds_93 rfl ymX12_like yvX12_like ml_X12_189 (by decide) rfl (Nat.le_of_ble_eq_true rfl) (Nat.le_of_ble_eq_true rfl) e13 (tX12_like x0 x2 x3 p2.2 rx2 rx3 e14) (fun r14 b14 z14 => ?_)
            refine j_if_eq (tgt := 103) (pc' := 99) dX12_rounds_96 (by decide) rfl r14 (fun c15 => ?_) (fun c15 => ?_)
            · rw [if_pos c15] at H
              refine j_iconst (pc' := 104) dX12_rounds_103 rfl ?_
              exact tX12_rounds_104 _ _ _ hk9 hk21 ih x0 x1 x2 x3 x4 0 p14.2 rx1 rx2 rx3 rx4 ⟨by decide, by decide⟩ H
            · rw [if_neg c15] at H
              refine j_iconst (pc' := 100) dX12_rounds_99 rfl ?_
              refine j_goto (tgt := 104) dX12_rounds_100 (by decide) ?_
              exact tX12_rounds_104 _ _ _ hk9 hk21 ih x0 x1 x2 x3 x4 1 p14.2 rx1 rx2 rx3 rx4 ⟨by decide, by decide⟩ H
          · rw [if_pos c12] at H
            refine j_goto (tgt := 147) dX12_rounds_87 (by decide) ?_
            exact tX12_rounds_147 _ _ _ hk9 hk21 ih x0 x1 x2 x3 x4 p2.2 rx1 rx2 rx3 rx4 H
noncomputable def fX12_rounds_21 (k9 : Nat → Int → Int → Hp → Option (Int × Hp)) : Nat → Nat → Int → Int → Int → Hp → Option (Int × Hp)
  | 0, _, _, _, _, _ => none
  | n + 1, x0, x1, x2, x3, h => (cob h 11 x0).bind fun _ => (fX12_n x0 h).bind fun p2 => if p2.1 ≤ x3 then (fX12_rounds_159 k9 x0 x1 x2 p2.2) else ((c32 (x3 + 1)).bind fun _ => fX12_rounds_34 k9 (fX12_rounds_21 k9 n) FU x0 x1 x2 x3 (x3 + 1) p2.2)
theorem tX12_rounds_21 {L : Nat} {xs : Nat → Int32} {l : Launch} {res : Int × Hp} (k9 : Nat → Int → Int → Hp → Option (Int × Hp)) (hk9 : ∀ (x0 : Nat) (x1 : Int) (x2 : Int) (h : Hp), R32 x1 → R32 x2 → k9 x0 x1 x2 h = some res → J L xs l RX12 cX12_rounds 6 false 2 (QI res) 0 0 9 [(0, vr x0), (1, vi x1), (2, vi x2)] [] h) : ∀ (n : Nat) (x0 : Nat) (x1 : Int) (x2 : Int) (x3 : Int) (h : Hp), R32 x1 → R32 x2 → R32 x3 → fX12_rounds_21 k9 n x0 x1 x2 x3 h = some res → J L xs l RX12 cX12_rounds 6 false 2 (QI res) 0 0 21 [(0, vr x0), (1, vi x1), (2, vi x2), (3, vi x3)] [] h := by
  intro n
  induction n with
  | zero => intro x0 x1 x2 x3 h rx1 rx2 rx3 H; cases H
  | succ n ih =>
    intro x0 x1 x2 x3 h rx1 rx2 rx3 H
    rw [fX12_rounds_21] at H
    refine j_iload_n (i := 3) (pc' := 22) dX12_rounds_21 rfl rfl 3 rfl ?_
    refine j_aload_n (i := 0) (pc' := 23) dX12_rounds_22 rfl rfl 0 rfl ?_
    obtain ⟨u1, e1, H⟩ := bs H
    obtain ⟨p2, e2, H⟩ := bs H
    refine j_cVi (y := yX12_n) (dY := 1) (vs := []) (st := [vi x3]) (q := x0) (pc' := 26) dX12_rounds_23 rfl ymX12_n yvX12_n ml_X12_90 (by decide) rfl (Nat.le_of_ble_eq_true rfl) (Nat.le_of_ble_eq_true rfl) e1 (tX12_n x0 h e2) (fun r2 z2 => ?_)
    refine j_icmp_ge (tgt := 159) (pc' := 29) dX12_rounds_26 (by decide) rfl rx3 r2 (fun c3 => ?_) (fun c3 => ?_)
    · rw [if_pos c3] at H
      refine j_sub (lv' := [(0, vr x0), (1, vi x1), (2, vi x2)]) [0, 1, 2] rfl ?_
      exact tX12_rounds_159 _ hk9 x0 x1 x2 p2.2 rx1 rx2 H
    · rw [if_neg c3] at H
      refine j_iload_n (i := 3) (pc' := 30) dX12_rounds_29 rfl rfl 3 rfl ?_
      refine j_iconst (pc' := 31) dX12_rounds_30 rfl ?_
      refine j_iadd (pc' := 32) dX12_rounds_31 rfl ?_
      obtain ⟨u4, e4, H⟩ := bs H
      have r4 := c32_R e4
      refine j_istore (lv' := [(0, vr x0), (1, vi x1), (2, vi x2), (3, vi x3), (4, vi (x3 + 1))]) (pc' := 34) dX12_rounds_32 rfl (by decide) [1, 2, 3, 4, 0] rfl ?_
      exact tX12_rounds_34 _ _ hk9 ih FU x0 x1 x2 x3 (x3 + 1) p2.2 rx1 rx2 rx3 r4 H
noncomputable def fX12_rounds_9 : Nat → Nat → Int → Int → Hp → Option (Int × Hp)
  | 0, _, _, _, _ => none
  | n + 1, x0, x1, x2, h => (cob h 11 x0).bind fun _ => (fX12_n x0 h).bind fun p2 => if p2.1 ≤ x2 then (fX12_rounds_165 x1 p2.2) else ((c32 (x2 + 1)).bind fun _ => fX12_rounds_21 (fX12_rounds_9 n) FU x0 x1 x2 (x2 + 1) p2.2)
theorem tX12_rounds_9 {L : Nat} {xs : Nat → Int32} {l : Launch} {res : Int × Hp} : ∀ (n : Nat) (x0 : Nat) (x1 : Int) (x2 : Int) (h : Hp), R32 x1 → R32 x2 → fX12_rounds_9 n x0 x1 x2 h = some res → J L xs l RX12 cX12_rounds 6 false 2 (QI res) 0 0 9 [(0, vr x0), (1, vi x1), (2, vi x2)] [] h := by
  intro n
  induction n with
  | zero => intro x0 x1 x2 h rx1 rx2 H; cases H
  | succ n ih =>
    intro x0 x1 x2 h rx1 rx2 H
    rw [fX12_rounds_9] at H
    refine j_iload_n (i := 2) (pc' := 10) dX12_rounds_9 rfl rfl 2 rfl ?_
    refine j_aload_n (i := 0) (pc' := 11) dX12_rounds_10 rfl rfl 0 rfl ?_
    obtain ⟨u1, e1, H⟩ := bs H
    obtain ⟨p2, e2, H⟩ := bs H
    refine j_cVi (y := yX12_n) (dY := 1) (vs := []) (st := [vi x2]) (q := x0) (pc' := 14) dX12_rounds_11 rfl ymX12_n yvX12_n ml_X12_90 (by decide) rfl (Nat.le_of_ble_eq_true rfl) (Nat.le_of_ble_eq_true rfl) e1 (tX12_n x0 h e2) (fun r2 z2 => ?_)
    refine j_icmp_ge (tgt := 165) (pc' := 17) dX12_rounds_14 (by decide) rfl rx2 r2 (fun c3 => ?_) (fun c3 => ?_)
    · rw [if_pos c3] at H
      refine j_sub (lv' := [(1, vi x1)]) [1] rfl ?_
      exact tX12_rounds_165   x1 p2.2 rx1 H
    · rw [if_neg c3] at H
      refine j_iload_n (i := 2) (pc' := 18) dX12_rounds_17 rfl rfl 2 rfl ?_
      refine j_iconst (pc' := 19) dX12_rounds_18 rfl ?_
      refine j_iadd (pc' := 20) dX12_rounds_19 rfl ?_
      obtain ⟨u4, e4, H⟩ := bs H
      have r4 := c32_R e4
      refine j_istore_n (i := 3) (lv' := [(0, vr x0), (1, vi x1), (2, vi x2), (3, vi (x2 + 1))]) (pc' := 21) dX12_rounds_20 rfl rfl (by decide) [1, 2, 3, 0] rfl ?_
      exact tX12_rounds_21 _ ih FU x0 x1 x2 (x2 + 1) p2.2 rx1 rx2 r4 H
noncomputable def fX12_rounds (a0 : Nat) (h : Hp) : Option (Int × Hp) :=
  (putV h 11 a0 19 (vi 0)).bind fun h1 => fX12_rounds_9 FU a0 0 0 h1
theorem tX12_rounds {L : Nat} {xs : Nat → Int32} {l : Launch} {res : Int × Hp} (a0 : Nat) (h : Hp)  (H : fX12_rounds a0 h = some res) : J L xs l RX12 cX12_rounds 6 false 2 (QI res) 0 0 0 (alv 0 [vr a0]) [] h := by
  unfold fX12_rounds at H
  show J L xs l RX12 cX12_rounds 6 false 2 (QI res) 0 0 0 [(0, vr a0)] [] h
  refine j_aload_n (i := 0) (pc' := 1) dX12_rounds_0 rfl rfl 0 rfl ?_
  refine j_iconst (pc' := 2) dX12_rounds_1 rfl ?_
  obtain ⟨h1, e1, H⟩ := bs H
  refine j_putV (pc' := 5) dX12_rounds_2 rfl fp_X12_77 tI ⟨by decide, by decide⟩ e1 ?_
  refine j_iconst (pc' := 6) dX12_rounds_5 rfl ?_
  refine j_istore_n (i := 1) (lv' := [(0, vr a0), (1, vi 0)]) (pc' := 7) dX12_rounds_6 rfl rfl (by decide) [1, 0] rfl ?_
  refine j_iconst (pc' := 8) dX12_rounds_7 rfl ?_
  refine j_istore_n (i := 2) (lv' := [(0, vr a0), (1, vi 0), (2, vi 0)]) (pc' := 9) dX12_rounds_8 rfl rfl (by decide) [1, 2, 0] rfl ?_
  exact tX12_rounds_9   FU a0 0 0 h1 ⟨by decide, by decide⟩ ⟨by decide, by decide⟩ H
-- X12_heightOf
noncomputable def fX12_heightOf_113 (x4 : Int) (h : Hp) : Option (Int × Hp) :=
  some (x4, h)
theorem tX12_heightOf_113 {L : Nat} {xs : Nat → Int32} {l : Launch} {res : Int × Hp} (x4 : Int) (h : Hp) (rx4 : R32 x4) (H : fX12_heightOf_113 x4 h = some res) : J L xs l RX12 cX12_heightOf 8 false 2 (QI res) 0 0 113 [(4, vi x4)] [] h := by
  unfold fX12_heightOf_113 at H
  refine j_iload (pc' := 115) dX12_heightOf_113 rfl 0 rfl ?_
  obtain rfl := Option.some.inj H
  exact j_iret dX12_heightOf_115 rx4 ⟨rfl, rfl⟩
noncomputable def fX12_heightOf_107 (k6 : Nat → Int → Int → Int → Int → Int → Hp → Option (Int × Hp)) (x0 : Nat) (x1 : Int) (x2 : Int) (x3 : Int) (x4 : Int) (x5 : Int) (h : Hp) : Option (Int × Hp) :=
  (c32 (x5 + 1)).bind fun _ => k6 x0 x1 x2 x3 x4 (x5 + 1) h
theorem tX12_heightOf_107 {L : Nat} {xs : Nat → Int32} {l : Launch} {res : Int × Hp} (k6 : Nat → Int → Int → Int → Int → Int → Hp → Option (Int × Hp)) (hk6 : ∀ (x0 : Nat) (x1 : Int) (x2 : Int) (x3 : Int) (x4 : Int) (x5 : Int) (h : Hp), R32 x1 → R32 x2 → R32 x3 → R32 x4 → R32 x5 → k6 x0 x1 x2 x3 x4 x5 h = some res → J L xs l RX12 cX12_heightOf 8 false 2 (QI res) 0 0 6 [(0, vr x0), (1, vi x1), (2, vi x2), (3, vi x3), (4, vi x4), (5, vi x5)] [] h) (x0 : Nat) (x1 : Int) (x2 : Int) (x3 : Int) (x4 : Int) (x5 : Int) (h : Hp) (rx1 : R32 x1) (rx2 : R32 x2) (rx3 : R32 x3) (rx4 : R32 x4) (rx5 : R32 x5) (H : fX12_heightOf_107 k6 x0 x1 x2 x3 x4 x5 h = some res) : J L xs l RX12 cX12_heightOf 8 false 2 (QI res) 0 0 107 [(0, vr x0), (1, vi x1), (2, vi x2), (3, vi x3), (4, vi x4), (5, vi x5)] [] h := by
  unfold fX12_heightOf_107 at H
  obtain ⟨u1, e1, H⟩ := bs H
  have r1 := c32_R e1
  refine j_iinc (k0 := 5) (lv' := [(0, vr x0), (1, vi x1), (2, vi x2), (3, vi x3), (4, vi x4), (5, vi (x5 + 1))]) (pc' := 110) dX12_heightOf_107 rfl rfl (by decide) [1, 2, 3, 4, 5, 0] rfl ?_
  refine j_goto (tgt := 6) dX12_heightOf_110 (by decide) ?_
  exact hk6 x0 x1 x2 x3 x4 (x5 + 1) h rx1 rx2 rx3 rx4 r1 H
noncomputable def fX12_heightOf_101 (k6 : Nat → Int → Int → Int → Int → Int → Hp → Option (Int × Hp)) (k18 : Nat → Int → Int → Int → Int → Int → Int → Hp → Option (Int × Hp)) (x0 : Nat) (x1 : Int) (x2 : Int) (x3 : Int) (x4 : Int) (x5 : Int) (x6 : Int) (h : Hp) : Option (Int × Hp) :=
  (c32 (x6 + 1)).bind fun _ => k18 x0 x1 x2 x3 x4 x5 (x6 + 1) h
theorem tX12_heightOf_101 {L : Nat} {xs : Nat → Int32} {l : Launch} {res : Int × Hp} (k6 : Nat → Int → Int → Int → Int → Int → Hp → Option (Int × Hp)) (k18 : Nat → Int → Int → Int → Int → Int → Int → Hp → Option (Int × Hp)) (hk6 : ∀ (x0 : Nat) (x1 : Int) (x2 : Int) (x3 : Int) (x4 : Int) (x5 : Int) (h : Hp), R32 x1 → R32 x2 → R32 x3 → R32 x4 → R32 x5 → k6 x0 x1 x2 x3 x4 x5 h = some res → J L xs l RX12 cX12_heightOf 8 false 2 (QI res) 0 0 6 [(0, vr x0), (1, vi x1), (2, vi x2), (3, vi x3), (4, vi x4), (5, vi x5)] [] h) (hk18 : ∀ (x0 : Nat) (x1 : Int) (x2 : Int) (x3 : Int) (x4 : Int) (x5 : Int) (x6 : Int) (h : Hp), R32 x1 → R32 x2 → R32 x3 → R32 x4 → R32 x5 → R32 x6 → k18 x0 x1 x2 x3 x4 x5 x6 h = some res → J L xs l RX12 cX12_heightOf 8 false 2 (QI res) 0 0 18 [(0, vr x0), (1, vi x1), (2, vi x2), (3, vi x3), (4, vi x4), (5, vi x5), (6, vi x6)] [] h) (x0 : Nat) (x1 : Int) (x2 : Int) (x3 : Int) (x4 : Int) (x5 : Int) (x6 : Int) (h : Hp) (rx1 : R32 x1) (rx2 : R32 x2) (rx3 : R32 x3) (rx4 : R32 x4) (rx5 : R32 x5) (rx6 : R32 x6) (H : fX12_heightOf_101 k6 k18 x0 x1 x2 x3 x4 x5 x6 h = some res) : J L xs l RX12 cX12_heightOf 8 false 2 (QI res) 0 0 101 [(0, vr x0), (1, vi x1), (2, vi x2), (3, vi x3), (4, vi x4), (5, vi x5), (6, vi x6)] [] h := by
  unfold fX12_heightOf_101 at H
  obtain ⟨u1, e1, H⟩ := bs H
  have r1 := c32_R e1
  refine j_iinc (k0 := 6) (lv' := [(0, vr x0), (1, vi x1), (2, vi x2), (3, vi x3), (4, vi x4), (5, vi x5), (6, vi (x6 + 1))]) (pc' := 104) dX12_heightOf_101 rfl rfl (by decide) [1, 2, 3, 4, 5, 6, 0] rfl ?_
  refine j_goto (tgt := 18) dX12_heightOf_104 (by decide) ?_
  exact hk18 x0 x1 x2 x3 x4 x5 (x6 + 1) h rx1 rx2 rx3 rx4 rx5 r1 H
noncomputable def fX12_heightOf_99 (k6 : Nat → Int → Int → Int → Int → Int → Hp → Option (Int × Hp)) (k18 : Nat → Int → Int → Int → Int → Int → Int → Hp → Option (Int × Hp)) (x0 : Nat) (x1 : Int) (x2 : Int) (x3 : Int) (x5 : Int) (x6 : Int) (s0 : Int) (h : Hp) : Option (Int × Hp) :=
  fX12_heightOf_101 k6 k18 x0 x1 x2 x3 s0 x5 x6 h
theorem tX12_heightOf_99 {L : Nat} {xs : Nat → Int32} {l : Launch} {res : Int × Hp} (k6 : Nat → Int → Int → Int → Int → Int → Hp → Option (Int × Hp)) (k18 : Nat → Int → Int → Int → Int → Int → Int → Hp → Option (Int × Hp)) (hk6 : ∀ (x0 : Nat) (x1 : Int) (x2 : Int) (x3 : Int) (x4 : Int) (x5 : Int) (h : Hp), R32 x1 → R32 x2 → R32 x3 → R32 x4 → R32 x5 → k6 x0 x1 x2 x3 x4 x5 h = some res → J L xs l RX12 cX12_heightOf 8 false 2 (QI res) 0 0 6 [(0, vr x0), (1, vi x1), (2, vi x2), (3, vi x3), (4, vi x4), (5, vi x5)] [] h) (hk18 : ∀ (x0 : Nat) (x1 : Int) (x2 : Int) (x3 : Int) (x4 : Int) (x5 : Int) (x6 : Int) (h : Hp), R32 x1 → R32 x2 → R32 x3 → R32 x4 → R32 x5 → R32 x6 → k18 x0 x1 x2 x3 x4 x5 x6 h = some res → J L xs l RX12 cX12_heightOf 8 false 2 (QI res) 0 0 18 [(0, vr x0), (1, vi x1), (2, vi x2), (3, vi x3), (4, vi x4), (5, vi x5), (6, vi x6)] [] h) (x0 : Nat) (x1 : Int) (x2 : Int) (x3 : Int) (x5 : Int) (x6 : Int) (s0 : Int) (h : Hp) (rx1 : R32 x1) (rx2 : R32 x2) (rx3 : R32 x3) (rx5 : R32 x5) (rx6 : R32 x6) (rs0 : R32 s0) (H : fX12_heightOf_99 k6 k18 x0 x1 x2 x3 x5 x6 s0 h = some res) : J L xs l RX12 cX12_heightOf 8 false 2 (QI res) 0 0 99 [(0, vr x0), (1, vi x1), (2, vi x2), (3, vi x3), (5, vi x5), (6, vi x6)] [vi s0] h := by
  unfold fX12_heightOf_99 at H
  refine j_istore (lv' := [(0, vr x0), (1, vi x1), (2, vi x2), (3, vi x3), (4, vi s0), (5, vi x5), (6, vi x6)]) (pc' := 101) dX12_heightOf_99 rfl (by decide) [1, 2, 3, 4, 0, 5, 6] rfl ?_
  exact tX12_heightOf_101 _ _ hk6 hk18 x0 x1 x2 x3 s0 x5 x6 h rx1 rx2 rx3 rs0 rx5 rx6 H
noncomputable def fX12_heightOf_18 (k6 : Nat → Int → Int → Int → Int → Int → Hp → Option (Int × Hp)) : Nat → Nat → Int → Int → Int → Int → Int → Int → Hp → Option (Int × Hp)
  | 0, _, _, _, _, _, _, _, _ => none
  | n + 1, x0, x1, x2, x3, x4, x5, x6, h => (cob h 11 x0).bind fun _ => (fX12_n x0 h).bind fun p2 => if p2.1 ≤ x6 then (fX12_heightOf_107 k6 x0 x1 x2 x3 x4 x5 p2.2) else ((getR p2.2 11 x0 20).bind fun v4 => (ald p2.2 0 v4 x5).bind fun v5 => if v5 = x2 then ((getR p2.2 11 x0 20).bind fun v7 => (ald p2.2 0 v7 x6).bind fun v8 => if v8 = x3 then ((getR p2.2 11 x0 2).bind fun v10 => (ald p2.2 0 v10 ((12 * x5) + x6)).bind fun v11 => if x4 = (-1) then (fX12_heightOf_99 k6 (fX12_heightOf_18 k6 n) x0 x1 x2 x3 x5 x6 v11 p2.2) else (if x1 = 0 then (fX12_heightOf_99 k6 (fX12_heightOf_18 k6 n) x0 x1 x2 x3 x5 x6 (min x4 v11) p2.2) else (fX12_heightOf_99 k6 (fX12_heightOf_18 k6 n) x0 x1 x2 x3 x5 x6 (max x4 v11) p2.2))) else (fX12_heightOf_101 k6 (fX12_heightOf_18 k6 n) x0 x1 x2 x3 x4 x5 x6 p2.2)) else (fX12_heightOf_101 k6 (fX12_heightOf_18 k6 n) x0 x1 x2 x3 x4 x5 x6 p2.2))
theorem tX12_heightOf_18 {L : Nat} {xs : Nat → Int32} {l : Launch} {res : Int × Hp} (k6 : Nat → Int → Int → Int → Int → Int → Hp → Option (Int × Hp)) (hk6 : ∀ (x0 : Nat) (x1 : Int) (x2 : Int) (x3 : Int) (x4 : Int) (x5 : Int) (h : Hp), R32 x1 → R32 x2 → R32 x3 → R32 x4 → R32 x5 → k6 x0 x1 x2 x3 x4 x5 h = some res → J L xs l RX12 cX12_heightOf 8 false 2 (QI res) 0 0 6 [(0, vr x0), (1, vi x1), (2, vi x2), (3, vi x3), (4, vi x4), (5, vi x5)] [] h) : ∀ (n : Nat) (x0 : Nat) (x1 : Int) (x2 : Int) (x3 : Int) (x4 : Int) (x5 : Int) (x6 : Int) (h : Hp), R32 x1 → R32 x2 → R32 x3 → R32 x4 → R32 x5 → R32 x6 → fX12_heightOf_18 k6 n x0 x1 x2 x3 x4 x5 x6 h = some res → J L xs l RX12 cX12_heightOf 8 false 2 (QI res) 0 0 18 [(0, vr x0), (1, vi x1), (2, vi x2), (3, vi x3), (4, vi x4), (5, vi x5), (6, vi x6)] [] h := by
  intro n
  induction n with
  | zero => intro x0 x1 x2 x3 x4 x5 x6 h rx1 rx2 rx3 rx4 rx5 rx6 H; cases H
  | succ n ih =>
    intro x0 x1 x2 x3 x4 x5 x6 h rx1 rx2 rx3 rx4 rx5 rx6 H
    rw [fX12_heightOf_18] at H
    refine j_iload (pc' := 20) dX12_heightOf_18 rfl 6 rfl ?_
    refine j_aload_n (i := 0) (pc' := 21) dX12_heightOf_20 rfl rfl 0 rfl ?_
    obtain ⟨u1, e1, H⟩ := bs H
    obtain ⟨p2, e2, H⟩ := bs H
    refine j_cVi (y := yX12_n) (dY := 1) (vs := []) (st := [vi x6]) (q := x0) (pc' := 24) dX12_heightOf_21 rfl ymX12_n yvX12_n ml_X12_90 (by decide) rfl (Nat.le_of_ble_eq_true rfl) (Nat.le_of_ble_eq_true rfl) e1 (tX12_n x0 h e2) (fun r2 z2 => ?_)
    refine j_icmp_ge (tgt := 107) (pc' := 27) dX12_heightOf_24 (by decide) rfl rx6 r2 (fun c3 => ?_) (fun c3 => ?_)
    · rw [if_pos c3] at H
      refine j_sub (lv' := [(0, vr x0), (1, vi x1), (2, vi x2), (3, vi x3), (4, vi x4), (5, vi x5)]) [0, 1, 2, 3, 4, 5] rfl ?_
      exact tX12_heightOf_107 _ hk6 x0 x1 x2 x3 x4 x5 p2.2 rx1 rx2 rx3 rx4 rx5 H
    · rw [if_neg c3] at H
      refine j_aload_n (i := 0) (pc' := 28) dX12_heightOf_27 rfl rfl 0 rfl ?_
      obtain ⟨v4, e4, H⟩ := bs H
      refine j_getR (pc' := 31) dX12_heightOf_28 rfl fl_X12_58 e4 (fun r4 => ?_)
      refine j_iload (pc' := 33) dX12_heightOf_31 rfl 5 rfl ?_
      obtain ⟨v5, e5, H⟩ := bs H
      refine j_iald (pc' := 34) dX12_heightOf_33 rfl e5 (fun r5 => ?_)
      refine j_iload_n (i := 2) (pc' := 35) dX12_heightOf_34 rfl rfl 2 rfl ?_
      refine j_icmp_ne (tgt := 101) (pc' := 38) dX12_heightOf_35 (by decide) rfl r5 rx2 (fun c6 => ?_) (fun c6 => ?_)
      · rw [if_neg c6] at H
        exact tX12_heightOf_101 _ _ hk6 ih x0 x1 x2 x3 x4 x5 x6 p2.2 rx1 rx2 rx3 rx4 rx5 rx6 H
      · rw [if_pos c6] at H
        refine j_aload_n (i := 0) (pc' := 39) dX12_heightOf_38 rfl rfl 0 rfl ?_
        obtain ⟨v7, e7, H⟩ := bs H
        refine j_getR (pc' := 42) dX12_heightOf_39 rfl fl_X12_58 e7 (fun r7 => ?_)
        refine j_iload (pc' := 44) dX12_heightOf_42 rfl 6 rfl ?_
        obtain ⟨v8, e8, H⟩ := bs H
        refine j_iald (pc' := 45) dX12_heightOf_44 rfl e8 (fun r8 => ?_)
        refine j_iload_n (i := 3) (pc' := 46) dX12_heightOf_45 rfl rfl 3 rfl ?_
        refine j_icmp_eq (tgt := 52) (pc' := 49) dX12_heightOf_46 (by decide) rfl r8 rx3 (fun c9 => ?_) (fun c9 => ?_)
        · rw [if_pos c9] at H
          refine j_aload_n (i := 0) (pc' := 53) dX12_heightOf_52 rfl rfl 0 rfl ?_
          obtain ⟨v10, e10, H⟩ := bs H
          refine j_getR (pc' := 56) dX12_heightOf_53 rfl fl_X12_16 e10 (fun r10 => ?_)
          refine j_bipush (pc' := 58) dX12_heightOf_56 rfl (by decide +kernel) ?_
          refine j_iload (pc' := 60) dX12_heightOf_58 rfl 5 rfl ?_
          refine j_imul (pc' := 61) dX12_heightOf_60 rfl ?_
          refine j_iload (pc' := 63) dX12_heightOf_61 rfl 6 rfl ?_
          refine j_iadd (pc' := 64) dX12_heightOf_63 rfl ?_
          obtain ⟨v11, e11, H⟩ := bs H
          refine j_iald (pc' := 65) dX12_heightOf_64 rfl e11 (fun r11 => ?_)
          refine j_istore (lv' := [(0, vr x0), (1, vi x1), (2, vi x2), (3, vi x3), (4, vi x4), (5, vi x5), (6, vi x6), (7, vi v11)]) (pc' := 67) dX12_heightOf_65 rfl (by decide) [1, 2, 3, 4, 5, 6, 7, 0] rfl ?_
          refine j_iload (pc' := 69) dX12_heightOf_67 rfl 4 rfl ?_
          refine j_iconst (pc' := 70) dX12_heightOf_69 rfl ?_
          refine j_icmp_ne (tgt := 78) (pc' := 73) dX12_heightOf_70 (by decide) rfl rx4 ⟨by decide, by decide⟩ (fun c12 => ?_) (fun c12 => ?_)
          · rw [if_neg c12] at H
            refine j_iload_n (i := 1) (pc' := 79) dX12_heightOf_78 rfl rfl 1 rfl ?_
            refine j_if_ne (tgt := 92) (pc' := 82) dX12_heightOf_79 (by decide) rfl rx1 (fun c13 => ?_) (fun c13 => ?_)
            · rw [if_neg c13] at H
              refine j_iload (pc' := 94) dX12_heightOf_92 rfl 4 rfl ?_
              refine j_iload (pc' := 96) dX12_heightOf_94 rfl 7 rfl ?_
              refine j_mmax (pc' := 99) dX12_heightOf_96 rfl ml_X12_125 (by decide) (Nat.le_of_ble_eq_true rfl) rx4 r11 ?_
              refine j_sub (lv' := [(0, vr x0), (1, vi x1), (2, vi x2), (3, vi x3), (5, vi x5), (6, vi x6)]) [0, 1, 2, 3, 5, 6] rfl ?_
              exact tX12_heightOf_99 _ _ hk6 ih x0 x1 x2 x3 x5 x6 (max x4 v11) p2.2 rx1 rx2 rx3 rx5 rx6 (R32_max rx4 r11) H
            · rw [if_pos c13] at H
              refine j_iload (pc' := 84) dX12_heightOf_82 rfl 4 rfl ?_
              refine j_iload (pc' := 86) dX12_heightOf_84 rfl 7 rfl ?_
              refine j_mmin (pc' := 89) dX12_heightOf_86 rfl ml_X12_201 (by decide) (Nat.le_of_ble_eq_true rfl) rx4 r11 ?_
              refine j_goto (tgt := 99) dX12_heightOf_89 (by decide) ?_
              refine j_sub (lv' := [(0, vr x0), (1, vi x1), (2, vi x2), (3, vi x3), (5, vi x5), (6, vi x6)]) [0, 1, 2, 3, 5, 6] rfl ?_
              exact tX12_heightOf_99 _ _ hk6 ih x0 x1 x2 x3 x5 x6 (min x4 v11) p2.2 rx1 rx2 rx3 rx5 rx6 (R32_min rx4 r11) H
          · rw [if_pos c12] at H
            refine j_iload (pc' := 75) dX12_heightOf_73 rfl 7 rfl ?_
            refine j_goto (tgt := 99) dX12_heightOf_75 (by decide) ?_
            refine j_sub (lv' := [(0, vr x0), (1, vi x1), (2, vi x2), (3, vi x3), (5, vi x5), (6, vi x6)]) [0, 1, 2, 3, 5, 6] rfl ?_
            exact tX12_heightOf_99 _ _ hk6 ih x0 x1 x2 x3 x5 x6 v11 p2.2 rx1 rx2 rx3 rx5 rx6 r11 H
        · rw [if_neg c9] at H
          refine j_goto (tgt := 101) dX12_heightOf_49 (by decide) ?_
          exact tX12_heightOf_101 _ _ hk6 ih x0 x1 x2 x3 x4 x5 x6 p2.2 rx1 rx2 rx3 rx4 rx5 rx6 H
noncomputable def fX12_heightOf_6 : Nat → Nat → Int → Int → Int → Int → Int → Hp → Option (Int × Hp)
  | 0, _, _, _, _, _, _, _ => none
  | n + 1, x0, x1, x2, x3, x4, x5, h => (cob h 11 x0).bind fun _ => (fX12_n x0 h).bind fun p2 => if p2.1 ≤ x5 then (fX12_heightOf_113 x4 p2.2) else (fX12_heightOf_18 (fX12_heightOf_6 n) FU x0 x1 x2 x3 x4 x5 0 p2.2)
theorem tX12_heightOf_6 {L : Nat} {xs : Nat → Int32} {l : Launch} {res : Int × Hp} : ∀ (n : Nat) (x0 : Nat) (x1 : Int) (x2 : Int) (x3 : Int) (x4 : Int) (x5 : Int) (h : Hp), R32 x1 → R32 x2 → R32 x3 → R32 x4 → R32 x5 → fX12_heightOf_6 n x0 x1 x2 x3 x4 x5 h = some res → J L xs l RX12 cX12_heightOf 8 false 2 (QI res) 0 0 6 [(0, vr x0), (1, vi x1), (2, vi x2), (3, vi x3), (4, vi x4), (5, vi x5)] [] h := by
  intro n
  induction n with
  | zero => intro x0 x1 x2 x3 x4 x5 h rx1 rx2 rx3 rx4 rx5 H; cases H
  | succ n ih =>
    intro x0 x1 x2 x3 x4 x5 h rx1 rx2 rx3 rx4 rx5 H
    rw [fX12_heightOf_6] at H
    refine j_iload (pc' := 8) dX12_heightOf_6 rfl 5 rfl ?_
    refine j_aload_n (i := 0) (pc' := 9) dX12_heightOf_8 rfl rfl 0 rfl ?_
    obtain ⟨u1, e1, H⟩ := bs H
    obtain ⟨p2, e2, H⟩ := bs H
    refine j_cVi (y := yX12_n) (dY := 1) (vs := []) (st := [vi x5]) (q := x0) (pc' := 12) dX12_heightOf_9 rfl ymX12_n yvX12_n ml_X12_90 (by decide) rfl (Nat.le_of_ble_eq_true rfl) (Nat.le_of_ble_eq_true rfl) e1 (tX12_n x0 h e2) (fun r2 z2 => ?_)
    refine j_icmp_ge (tgt := 113) (pc' := 15) dX12_heightOf_12 (by decide) rfl rx5 r2 (fun c3 => ?_) (fun c3 => ?_)
    · rw [if_pos c3] at H
      refine j_sub (lv' := [(4, vi x4)]) [4] rfl ?_
      exact tX12_heightOf_113   x4 p2.2 rx4 H
    · rw [if_neg c3] at H
      refine j_iconst (pc' := 16) dX12_heightOf_15 rfl ?_
      refine j_istore (lv' := [(0, vr x0), (1, vi x1), (2, vi x2), (3, vi x3), (4, vi x4), (5, vi x5), (6, vi 0)]) (pc' := 18) dX12_heightOf_16 rfl (by decide) [1, 2, 3, 4, 5, 6, 0] rfl ?_
      exact tX12_heightOf_18 _ ih FU x0 x1 x2 x3 x4 x5 0 p2.2 rx1 rx2 rx3 rx4 rx5 ⟨by decide, by decide⟩ H
noncomputable def fX12_heightOf (a0 : Nat) (a1 : Int) (a2 : Int) (a3 : Int) (h : Hp) : Option (Int × Hp) :=
  fX12_heightOf_6 FU a0 a1 a2 a3 (-1) 0 h
theorem tX12_heightOf {L : Nat} {xs : Nat → Int32} {l : Launch} {res : Int × Hp} (a0 : Nat) (a1 : Int) (a2 : Int) (a3 : Int) (h : Hp) (ra1 : R32 a1) (ra2 : R32 a2) (ra3 : R32 a3) (H : fX12_heightOf a0 a1 a2 a3 h = some res) : J L xs l RX12 cX12_heightOf 8 false 2 (QI res) 0 0 0 (alv 0 [vr a0, vi a1, vi a2, vi a3]) [] h := by
  unfold fX12_heightOf at H
  show J L xs l RX12 cX12_heightOf 8 false 2 (QI res) 0 0 0 [(0, vr a0), (1, vi a1), (2, vi a2), (3, vi a3)] [] h
  refine j_iconst (pc' := 1) dX12_heightOf_0 rfl ?_
  refine j_istore (lv' := [(0, vr a0), (1, vi a1), (2, vi a2), (3, vi a3), (4, vi (-1))]) (pc' := 3) dX12_heightOf_1 rfl (by decide) [1, 2, 3, 4, 0] rfl ?_
  refine j_iconst (pc' := 4) dX12_heightOf_3 rfl ?_
  refine j_istore (lv' := [(0, vr a0), (1, vi a1), (2, vi a2), (3, vi a3), (4, vi (-1)), (5, vi 0)]) (pc' := 6) dX12_heightOf_4 rfl (by decide) [1, 2, 3, 4, 5, 0] rfl ?_
  exact tX12_heightOf_6   FU a0 a1 a2 a3 (-1) 0 h ra1 ra2 ra3 ⟨by decide, by decide⟩ ⟨by decide, by decide⟩ H
-- X12_tree
noncomputable def fX12_tree_14 (x0 : Nat) (h : Hp) : Option (Int × Hp) :=
  (cob h 11 x0).bind fun _ => (fX12_no x0 1 h).bind fun p2 => some (p2.1, p2.2)
theorem tX12_tree_14 {L : Nat} {xs : Nat → Int32} {l : Launch} {res : Int × Hp} (x0 : Nat) (h : Hp)  (H : fX12_tree_14 x0 h = some res) : J L xs l RX12 cX12_tree 8 false 3 (QI res) 0 0 14 [(0, vr x0)] [] h := by
  unfold fX12_tree_14 at H
  refine j_aload_n (i := 0) (pc' := 15) dX12_tree_14 rfl rfl 0 rfl ?_
  refine j_iconst (pc' := 16) dX12_tree_15 rfl ?_
  obtain ⟨u1, e1, H⟩ := bs H
  obtain ⟨p2, e2, H⟩ := bs H
  refine j_cVi (y := yX12_no) (dY := 1) (vs := [vi 1]) (st := []) (q := x0) (pc' := 19) dX12_tree_16 rfl ymX12_no yvX12_no ml_X12_98 (by decide) rfl (Nat.le_of_ble_eq_true rfl) (Nat.le_of_ble_eq_true rfl) e1 (tX12_no x0 1 h ⟨by decide, by decide⟩ e2) (fun r2 z2 => ?_)
  obtain rfl := Option.some.inj H
  exact j_iret dX12_tree_19 r2 ⟨rfl, rfl⟩
noncomputable def fX12_tree_251 (x0 : Nat) (h : Hp) : Option (Int × Hp) :=
  (getI h 11 x0 11).bind fun v1 => some (v1, h)
theorem tX12_tree_251 {L : Nat} {xs : Nat → Int32} {l : Launch} {res : Int × Hp} (x0 : Nat) (h : Hp)  (H : fX12_tree_251 x0 h = some res) : J L xs l RX12 cX12_tree 8 false 3 (QI res) 0 0 251 [(0, vr x0)] [] h := by
  unfold fX12_tree_251 at H
  refine j_aload_n (i := 0) (pc' := 252) dX12_tree_251 rfl rfl 0 rfl ?_
  obtain ⟨v1, e1, H⟩ := bs H
  refine j_getI (pc' := 255) dX12_tree_252 rfl fl_X12_37 e1 (fun r1 => ?_)
  obtain rfl := Option.some.inj H
  exact j_iret dX12_tree_255 r1 ⟨rfl, rfl⟩
noncomputable def fX12_tree_248 (k48 : Nat → Int → Hp → Option (Int × Hp)) (x0 : Nat) (x1 : Int) (h : Hp) : Option (Int × Hp) :=
  k48 x0 x1 h
theorem tX12_tree_248 {L : Nat} {xs : Nat → Int32} {l : Launch} {res : Int × Hp} (k48 : Nat → Int → Hp → Option (Int × Hp)) (hk48 : ∀ (x0 : Nat) (x1 : Int) (h : Hp), R32 x1 → k48 x0 x1 h = some res → J L xs l RX12 cX12_tree 8 false 3 (QI res) 0 0 48 [(0, vr x0), (1, vi x1)] [] h) (x0 : Nat) (x1 : Int) (h : Hp) (rx1 : R32 x1) (H : fX12_tree_248 k48 x0 x1 h = some res) : J L xs l RX12 cX12_tree 8 false 3 (QI res) 0 0 248 [(0, vr x0), (1, vi x1)] [] h := by
  unfold fX12_tree_248 at H
  refine j_goto (tgt := 48) dX12_tree_248 (by decide) ?_
  exact hk48 x0 x1 h rx1 H
noncomputable def fX12_tree_242 (k48 : Nat → Int → Hp → Option (Int × Hp)) (k214 : Nat → Int → Int → Int → Int → Hp → Option (Int × Hp)) (x0 : Nat) (x1 : Int) (x2 : Int) (x3 : Int) (x5 : Int) (h : Hp) : Option (Int × Hp) :=
  (c32 (x5 + 1)).bind fun _ => k214 x0 x1 x2 x3 (x5 + 1) h
theorem tX12_tree_242 {L : Nat} {xs : Nat → Int32} {l : Launch} {res : Int × Hp} (k48 : Nat → Int → Hp → Option (Int × Hp)) (k214 : Nat → Int → Int → Int → Int → Hp → Option (Int × Hp)) (hk48 : ∀ (x0 : Nat) (x1 : Int) (h : Hp), R32 x1 → k48 x0 x1 h = some res → J L xs l RX12 cX12_tree 8 false 3 (QI res) 0 0 48 [(0, vr x0), (1, vi x1)] [] h) (hk214 : ∀ (x0 : Nat) (x1 : Int) (x2 : Int) (x3 : Int) (x5 : Int) (h : Hp), R32 x1 → R32 x2 → R32 x3 → R32 x5 → k214 x0 x1 x2 x3 x5 h = some res → J L xs l RX12 cX12_tree 8 false 3 (QI res) 0 0 214 [(0, vr x0), (1, vi x1), (2, vi x2), (3, vi x3), (5, vi x5)] [] h) (x0 : Nat) (x1 : Int) (x2 : Int) (x3 : Int) (x5 : Int) (h : Hp) (rx1 : R32 x1) (rx2 : R32 x2) (rx3 : R32 x3) (rx5 : R32 x5) (H : fX12_tree_242 k48 k214 x0 x1 x2 x3 x5 h = some res) : J L xs l RX12 cX12_tree 8 false 3 (QI res) 0 0 242 [(0, vr x0), (1, vi x1), (2, vi x2), (3, vi x3), (5, vi x5)] [] h := by
  unfold fX12_tree_242 at H
  obtain ⟨u1, e1, H⟩ := bs H
  have r1 := c32_R e1
  refine j_iinc (k0 := 4) (lv' := [(0, vr x0), (1, vi x1), (2, vi x2), (3, vi x3), (5, vi (x5 + 1))]) (pc' := 245) dX12_tree_242 rfl rfl (by decide) [1, 2, 3, 4, 0] rfl ?_
  refine j_goto (tgt := 214) dX12_tree_245 (by decide) ?_
  exact hk214 x0 x1 x2 x3 (x5 + 1) h rx1 rx2 rx3 r1 H
noncomputable def fX12_tree_214 (k48 : Nat → Int → Hp → Option (Int × Hp)) : Nat → Nat → Int → Int → Int → Int → Hp → Option (Int × Hp)
  | 0, _, _, _, _, _, _ => none
  | n + 1, x0, x1, x2, x3, x5, h => (cob h 11 x0).bind fun _ => (fX12_n x0 h).bind fun p2 => if p2.1 ≤ x5 then (fX12_tree_248 k48 x0 x1 p2.2) else ((getR p2.2 11 x0 20).bind fun v4 => (ald p2.2 0 v4 x5).bind fun v5 => if v5 = x3 then ((getR p2.2 11 x0 20).bind fun v7 => (ast p2.2 0 v7 x5 x2).bind fun h8 => fX12_tree_242 k48 (fX12_tree_214 k48 n) x0 x1 x2 x3 x5 h8) else (fX12_tree_242 k48 (fX12_tree_214 k48 n) x0 x1 x2 x3 x5 p2.2))
theorem tX12_tree_214 {L : Nat} {xs : Nat → Int32} {l : Launch} {res : Int × Hp} (k48 : Nat → Int → Hp → Option (Int × Hp)) (hk48 : ∀ (x0 : Nat) (x1 : Int) (h : Hp), R32 x1 → k48 x0 x1 h = some res → J L xs l RX12 cX12_tree 8 false 3 (QI res) 0 0 48 [(0, vr x0), (1, vi x1)] [] h) : ∀ (n : Nat) (x0 : Nat) (x1 : Int) (x2 : Int) (x3 : Int) (x5 : Int) (h : Hp), R32 x1 → R32 x2 → R32 x3 → R32 x5 → fX12_tree_214 k48 n x0 x1 x2 x3 x5 h = some res → J L xs l RX12 cX12_tree 8 false 3 (QI res) 0 0 214 [(0, vr x0), (1, vi x1), (2, vi x2), (3, vi x3), (5, vi x5)] [] h := by
  intro n
  induction n with
  | zero => intro x0 x1 x2 x3 x5 h rx1 rx2 rx3 rx5 H; cases H
  | succ n ih =>
    intro x0 x1 x2 x3 x5 h rx1 rx2 rx3 rx5 H
    rw [fX12_tree_214] at H
    refine j_iload (pc' := 216) dX12_tree_214 rfl 4 rfl ?_
    refine j_aload_n (i := 0) (pc' := 217) dX12_tree_216 rfl rfl 0 rfl ?_
    obtain ⟨u1, e1, H⟩ := bs H
    obtain ⟨p2, e2, H⟩ := bs H
    refine j_cVi (y := yX12_n) (dY := 1) (vs := []) (st := [vi x5]) (q := x0) (pc' := 220) dX12_tree_217 rfl ymX12_n yvX12_n ml_X12_90 (by decide) rfl (Nat.le_of_ble_eq_true rfl) (Nat.le_of_ble_eq_true rfl) e1 (tX12_n x0 h e2) (fun r2 z2 => ?_)
    refine j_icmp_ge (tgt := 248) (pc' := 223) dX12_tree_220 (by decide) rfl rx5 r2 (fun c3 => ?_) (fun c3 => ?_)
    · rw [if_pos c3] at H
      refine j_sub (lv' := [(0, vr x0), (1, vi x1)]) [0, 1] rfl ?_
      exact tX12_tree_248 _ hk48 x0 x1 p2.2 rx1 H
    · rw [if_neg c3] at H
      refine j_aload_n (i := 0) (pc' := 224) dX12_tree_223 rfl rfl 0 rfl ?_
      obtain ⟨v4, e4, H⟩ := bs H
      refine j_getR (pc' := 227) dX12_tree_224 rfl fl_X12_58 e4 (fun r4 => ?_)
      refine j_iload (pc' := 229) dX12_tree_227 rfl 4 rfl ?_
      obtain ⟨v5, e5, H⟩ := bs H
      refine j_iald (pc' := 230) dX12_tree_229 rfl e5 (fun r5 => ?_)
      refine j_iload_n (i := 3) (pc' := 231) dX12_tree_230 rfl rfl 3 rfl ?_
      refine j_icmp_ne (tgt := 242) (pc' := 234) dX12_tree_231 (by decide) rfl r5 rx3 (fun c6 => ?_) (fun c6 => ?_)
      · rw [if_neg c6] at H
        exact tX12_tree_242 _ _ hk48 ih x0 x1 x2 x3 x5 p2.2 rx1 rx2 rx3 rx5 H
      · rw [if_pos c6] at H
        refine j_aload_n (i := 0) (pc' := 235) dX12_tree_234 rfl rfl 0 rfl ?_
        obtain ⟨v7, e7, H⟩ := bs H
        refine j_getR (pc' := 238) dX12_tree_235 rfl fl_X12_58 e7 (fun r7 => ?_)
        refine j_iload (pc' := 240) dX12_tree_238 rfl 4 rfl ?_
        refine j_iload_n (i := 2) (pc' := 241) dX12_tree_240 rfl rfl 2 rfl ?_
        obtain ⟨h8, e8, H⟩ := bs H
        refine j_iast (pc' := 242) dX12_tree_241 rfl rx2 e8 ?_
        exact tX12_tree_242 _ _ hk48 ih x0 x1 x2 x3 x5 h8 rx1 rx2 rx3 rx5 H
noncomputable def fX12_tree_170 (k48 : Nat → Int → Hp → Option (Int × Hp)) (x0 : Nat) (x1 : Int) (x2 : Int) (x3 : Int) (x4 : Int) (h : Hp) : Option (Int × Hp) :=
  (getR h 11 x0 12).bind fun v1 => (getI h 11 x0 11).bind fun v2 => (ast h 0 v1 v2 x2).bind fun h3 => (getR h3 11 x0 13).bind fun v4 => (getI h3 11 x0 11).bind fun v5 => (ast h3 0 v4 v5 x3).bind fun h6 => (getR h6 11 x0 14).bind fun v7 => (getI h6 11 x0 11).bind fun v8 => (ast h6 0 v7 v8 x4).bind fun h9 => (getI h9 11 x0 11).bind fun v10 => (c32 (v10 + 1)).bind fun _ => (putV h9 11 x0 11 (vi (v10 + 1))).bind fun h12 => fX12_tree_214 k48 FU x0 x1 x2 x3 0 h12
theorem tX12_tree_170 {L : Nat} {xs : Nat → Int32} {l : Launch} {res : Int × Hp} (k48 : Nat → Int → Hp → Option (Int × Hp)) (hk48 : ∀ (x0 : Nat) (x1 : Int) (h : Hp), R32 x1 → k48 x0 x1 h = some res → J L xs l RX12 cX12_tree 8 false 3 (QI res) 0 0 48 [(0, vr x0), (1, vi x1)] [] h) (x0 : Nat) (x1 : Int) (x2 : Int) (x3 : Int) (x4 : Int) (h : Hp) (rx1 : R32 x1) (rx2 : R32 x2) (rx3 : R32 x3) (rx4 : R32 x4) (H : fX12_tree_170 k48 x0 x1 x2 x3 x4 h = some res) : J L xs l RX12 cX12_tree 8 false 3 (QI res) 0 0 170 [(0, vr x0), (1, vi x1), (2, vi x2), (3, vi x3), (4, vi x4)] [] h := by
  unfold fX12_tree_170 at H
  refine j_aload_n (i := 0) (pc' := 171) dX12_tree_170 rfl rfl 0 rfl ?_
  obtain ⟨v1, e1, H⟩ := bs H
  refine j_getR (pc' := 174) dX12_tree_171 rfl fl_X12_40 e1 (fun r1 => ?_)
  refine j_aload_n (i := 0) (pc' := 175) dX12_tree_174 rfl rfl 0 rfl ?_
  obtain ⟨v2, e2, H⟩ := bs H
  refine j_getI (pc' := 178) dX12_tree_175 rfl fl_X12_37 e2 (fun r2 => ?_)
  refine j_iload_n (i := 2) (pc' := 179) dX12_tree_178 rfl rfl 2 rfl ?_
  obtain ⟨h3, e3, H⟩ := bs H
  refine j_iast (pc' := 180) dX12_tree_179 rfl rx2 e3 ?_
  refine j_aload_n (i := 0) (pc' := 181) dX12_tree_180 rfl rfl 0 rfl ?_
  obtain ⟨v4, e4, H⟩ := bs H
  refine j_getR (pc' := 184) dX12_tree_181 rfl fl_X12_43 e4 (fun r4 => ?_)
  refine j_aload_n (i := 0) (pc' := 185) dX12_tree_184 rfl rfl 0 rfl ?_
  obtain ⟨v5, e5, H⟩ := bs H
  refine j_getI (pc' := 188) dX12_tree_185 rfl fl_X12_37 e5 (fun r5 => ?_)
  refine j_iload_n (i := 3) (pc' := 189) dX12_tree_188 rfl rfl 3 rfl ?_
  obtain ⟨h6, e6, H⟩ := bs H
  refine j_iast (pc' := 190) dX12_tree_189 rfl rx3 e6 ?_
  refine j_aload_n (i := 0) (pc' := 191) dX12_tree_190 rfl rfl 0 rfl ?_
  obtain ⟨v7, e7, H⟩ := bs H
  refine j_getR (pc' := 194) dX12_tree_191 rfl fl_X12_46 e7 (fun r7 => ?_)
  refine j_aload_n (i := 0) (pc' := 195) dX12_tree_194 rfl rfl 0 rfl ?_
  obtain ⟨v8, e8, H⟩ := bs H
  refine j_getI (pc' := 198) dX12_tree_195 rfl fl_X12_37 e8 (fun r8 => ?_)
  refine j_iload (pc' := 200) dX12_tree_198 rfl 4 rfl ?_
  obtain ⟨h9, e9, H⟩ := bs H
  refine j_iast (pc' := 201) dX12_tree_200 rfl rx4 e9 ?_
  refine j_aload_n (i := 0) (pc' := 202) dX12_tree_201 rfl rfl 0 rfl ?_
  refine j_dup (pc' := 203) dX12_tree_202 rfl rfl ?_
  obtain ⟨v10, e10, H⟩ := bs H
  refine j_getI (pc' := 206) dX12_tree_203 rfl fl_X12_37 e10 (fun r10 => ?_)
  refine j_iconst (pc' := 207) dX12_tree_206 rfl ?_
  refine j_iadd (pc' := 208) dX12_tree_207 rfl ?_
  obtain ⟨u11, e11, H⟩ := bs H
  have r11 := c32_R e11
  obtain ⟨h12, e12, H⟩ := bs H
  refine j_putV (pc' := 211) dX12_tree_208 rfl fp_X12_37 tI r11 e12 ?_
  refine j_iconst (pc' := 212) dX12_tree_211 rfl ?_
  refine j_istore (lv' := [(0, vr x0), (1, vi x1), (2, vi x2), (3, vi x3), (4, vi x4), (5, vi 0)]) (pc' := 214) dX12_tree_212 rfl (by decide) [1, 2, 3, 4, 5, 0] rfl ?_
  refine j_sub (lv' := [(0, vr x0), (1, vi x1), (2, vi x2), (3, vi x3), (5, vi 0)]) [0, 1, 2, 3, 5] rfl ?_
  exact tX12_tree_214 _ hk48 FU x0 x1 x2 x3 0 h12 rx1 rx2 rx3 ⟨by decide, by decide⟩ H
noncomputable def fX12_tree_164 (k48 : Nat → Int → Hp → Option (Int × Hp)) (k71 : Nat → Int → Int → Int → Int → Int → Hp → Option (Int × Hp)) (x0 : Nat) (x1 : Int) (x2 : Int) (x3 : Int) (x4 : Int) (x5 : Int) (h : Hp) : Option (Int × Hp) :=
  (c32 (x5 + 1)).bind fun _ => k71 x0 x1 x2 x3 x4 (x5 + 1) h
theorem tX12_tree_164 {L : Nat} {xs : Nat → Int32} {l : Launch} {res : Int × Hp} (k48 : Nat → Int → Hp → Option (Int × Hp)) (k71 : Nat → Int → Int → Int → Int → Int → Hp → Option (Int × Hp)) (hk48 : ∀ (x0 : Nat) (x1 : Int) (h : Hp), R32 x1 → k48 x0 x1 h = some res → J L xs l RX12 cX12_tree 8 false 3 (QI res) 0 0 48 [(0, vr x0), (1, vi x1)] [] h) (hk71 : ∀ (x0 : Nat) (x1 : Int) (x2 : Int) (x3 : Int) (x4 : Int) (x5 : Int) (h : Hp), R32 x1 → R32 x2 → R32 x3 → R32 x4 → R32 x5 → k71 x0 x1 x2 x3 x4 x5 h = some res → J L xs l RX12 cX12_tree 8 false 3 (QI res) 0 0 71 [(0, vr x0), (1, vi x1), (2, vi x2), (3, vi x3), (4, vi x4), (5, vi x5)] [] h) (x0 : Nat) (x1 : Int) (x2 : Int) (x3 : Int) (x4 : Int) (x5 : Int) (h : Hp) (rx1 : R32 x1) (rx2 : R32 x2) (rx3 : R32 x3) (rx4 : R32 x4) (rx5 : R32 x5) (H : fX12_tree_164 k48 k71 x0 x1 x2 x3 x4 x5 h = some res) : J L xs l RX12 cX12_tree 8 false 3 (QI res) 0 0 164 [(0, vr x0), (1, vi x1), (2, vi x2), (3, vi x3), (4, vi x4), (5, vi x5)] [] h := by
  unfold fX12_tree_164 at H
  obtain ⟨u1, e1, H⟩ := bs H
  have r1 := c32_R e1
  refine j_iinc (k0 := 5) (lv' := [(0, vr x0), (1, vi x1), (2, vi x2), (3, vi x3), (4, vi x4), (5, vi (x5 + 1))]) (pc' := 167) dX12_tree_164 rfl rfl (by decide) [1, 2, 3, 4, 5, 0] rfl ?_
  refine j_goto (tgt := 71) dX12_tree_167 (by decide) ?_
  exact hk71 x0 x1 x2 x3 x4 (x5 + 1) h rx1 rx2 rx3 rx4 r1 H
noncomputable def fX12_tree_158 (k48 : Nat → Int → Hp → Option (Int × Hp)) (k71 : Nat → Int → Int → Int → Int → Int → Hp → Option (Int × Hp)) (k86 : Nat → Int → Int → Int → Int → Int → Int → Hp → Option (Int × Hp)) (x0 : Nat) (x1 : Int) (x2 : Int) (x3 : Int) (x4 : Int) (x5 : Int) (x6 : Int) (h : Hp) : Option (Int × Hp) :=
  (c32 (x6 + 1)).bind fun _ => k86 x0 x1 x2 x3 x4 x5 (x6 + 1) h
theorem tX12_tree_158 {L : Nat} {xs : Nat → Int32} {l : Launch} {res : Int × Hp} (k48 : Nat → Int → Hp → Option (Int × Hp)) (k71 : Nat → Int → Int → Int → Int → Int → Hp → Option (Int × Hp)) (k86 : Nat → Int → Int → Int → Int → Int → Int → Hp → Option (Int × Hp)) (hk48 : ∀ (x0 : Nat) (x1 : Int) (h : Hp), R32 x1 → k48 x0 x1 h = some res → J L xs l RX12 cX12_tree 8 false 3 (QI res) 0 0 48 [(0, vr x0), (1, vi x1)] [] h) (hk71 : ∀ (x0 : Nat) (x1 : Int) (x2 : Int) (x3 : Int) (x4 : Int) (x5 : Int) (h : Hp), R32 x1 → R32 x2 → R32 x3 → R32 x4 → R32 x5 → k71 x0 x1 x2 x3 x4 x5 h = some res → J L xs l RX12 cX12_tree 8 false 3 (QI res) 0 0 71 [(0, vr x0), (1, vi x1), (2, vi x2), (3, vi x3), (4, vi x4), (5, vi x5)] [] h) (hk86 : ∀ (x0 : Nat) (x1 : Int) (x2 : Int) (x3 : Int) (x4 : Int) (x5 : Int) (x6 : Int) (h : Hp), R32 x1 → R32 x2 → R32 x3 → R32 x4 → R32 x5 → R32 x6 → k86 x0 x1 x2 x3 x4 x5 x6 h = some res → J L xs l RX12 cX12_tree 8 false 3 (QI res) 0 0 86 [(0, vr x0), (1, vi x1), (2, vi x2), (3, vi x3), (4, vi x4), (5, vi x5), (6, vi x6)] [] h) (x0 : Nat) (x1 : Int) (x2 : Int) (x3 : Int) (x4 : Int) (x5 : Int) (x6 : Int) (h : Hp) (rx1 : R32 x1) (rx2 : R32 x2) (rx3 : R32 x3) (rx4 : R32 x4) (rx5 : R32 x5) (rx6 : R32 x6) (H : fX12_tree_158 k48 k71 k86 x0 x1 x2 x3 x4 x5 x6 h = some res) : J L xs l RX12 cX12_tree 8 false 3 (QI res) 0 0 158 [(0, vr x0), (1, vi x1), (2, vi x2), (3, vi x3), (4, vi x4), (5, vi x5), (6, vi x6)] [] h := by
  unfold fX12_tree_158 at H
  obtain ⟨u1, e1, H⟩ := bs H
  have r1 := c32_R e1
  refine j_iinc (k0 := 6) (lv' := [(0, vr x0), (1, vi x1), (2, vi x2), (3, vi x3), (4, vi x4), (5, vi x5), (6, vi (x6 + 1))]) (pc' := 161) dX12_tree_158 rfl rfl (by decide) [1, 2, 3, 4, 5, 6, 0] rfl ?_
  refine j_goto (tgt := 86) dX12_tree_161 (by decide) ?_
  exact hk86 x0 x1 x2 x3 x4 x5 (x6 + 1) h rx1 rx2 rx3 rx4 rx5 r1 H
noncomputable def fX12_tree_148 (k48 : Nat → Int → Hp → Option (Int × Hp)) (k71 : Nat → Int → Int → Int → Int → Int → Hp → Option (Int × Hp)) (k86 : Nat → Int → Int → Int → Int → Int → Int → Hp → Option (Int × Hp)) (x0 : Nat) (x1 : Int) (x5 : Int) (x6 : Int) (x7 : Int) (h : Hp) : Option (Int × Hp) :=
  fX12_tree_158 k48 k71 k86 x0 x1 x5 x6 x7 x5 x6 h
theorem tX12_tree_148 {L : Nat} {xs : Nat → Int32} {l : Launch} {res : Int × Hp} (k48 : Nat → Int → Hp → Option (Int × Hp)) (k71 : Nat → Int → Int → Int → Int → Int → Hp → Option (Int × Hp)) (k86 : Nat → Int → Int → Int → Int → Int → Int → Hp → Option (Int × Hp)) (hk48 : ∀ (x0 : Nat) (x1 : Int) (h : Hp), R32 x1 → k48 x0 x1 h = some res → J L xs l RX12 cX12_tree 8 false 3 (QI res) 0 0 48 [(0, vr x0), (1, vi x1)] [] h) (hk71 : ∀ (x0 : Nat) (x1 : Int) (x2 : Int) (x3 : Int) (x4 : Int) (x5 : Int) (h : Hp), R32 x1 → R32 x2 → R32 x3 → R32 x4 → R32 x5 → k71 x0 x1 x2 x3 x4 x5 h = some res → J L xs l RX12 cX12_tree 8 false 3 (QI res) 0 0 71 [(0, vr x0), (1, vi x1), (2, vi x2), (3, vi x3), (4, vi x4), (5, vi x5)] [] h) (hk86 : ∀ (x0 : Nat) (x1 : Int) (x2 : Int) (x3 : Int) (x4 : Int) (x5 : Int) (x6 : Int) (h : Hp), R32 x1 → R32 x2 → R32 x3 → R32 x4 → R32 x5 → R32 x6 → k86 x0 x1 x2 x3 x4 x5 x6 h = some res → J L xs l RX12 cX12_tree 8 false 3 (QI res) 0 0 86 [(0, vr x0), (1, vi x1), (2, vi x2), (3, vi x3), (4, vi x4), (5, vi x5), (6, vi x6)] [] h) (x0 : Nat) (x1 : Int) (x5 : Int) (x6 : Int) (x7 : Int) (h : Hp) (rx1 : R32 x1) (rx5 : R32 x5) (rx6 : R32 x6) (rx7 : R32 x7) (H : fX12_tree_148 k48 k71 k86 x0 x1 x5 x6 x7 h = some res) : J L xs l RX12 cX12_tree 8 false 3 (QI res) 0 0 148 [(0, vr x0), (1, vi x1), (5, vi x5), (6, vi x6), (7, vi x7)] [] h := by
  unfold fX12_tree_148 at H
  refine j_iload (pc' := 150) dX12_tree_148 rfl 2 rfl ?_
  refine j_istore_n (i := 2) (lv' := [(0, vr x0), (1, vi x1), (2, vi x5), (5, vi x5), (6, vi x6), (7, vi x7)]) (pc' := 151) dX12_tree_150 rfl rfl (by decide) [1, 2, 0, 3, 4, 5] rfl ?_
  refine j_iload (pc' := 153) dX12_tree_151 rfl 4 rfl ?_
  refine j_istore_n (i := 3) (lv' := [(0, vr x0), (1, vi x1), (2, vi x5), (3, vi x6), (5, vi x5), (6, vi x6), (7, vi x7)]) (pc' := 154) dX12_tree_153 rfl rfl (by decide) [1, 2, 3, 0, 4, 5, 6] rfl ?_
  refine j_iload (pc' := 156) dX12_tree_154 rfl 6 rfl ?_
  refine j_istore (lv' := [(0, vr x0), (1, vi x1), (2, vi x5), (3, vi x6), (4, vi x7), (5, vi x5), (6, vi x6), (7, vi x7)]) (pc' := 158) dX12_tree_156 rfl (by decide) [1, 2, 3, 4, 0, 5, 6, 7] rfl ?_
  refine j_sub (lv' := [(0, vr x0), (1, vi x1), (2, vi x5), (3, vi x6), (4, vi x7), (5, vi x5), (6, vi x6)]) [0, 1, 2, 3, 4, 5, 6] rfl ?_
  exact tX12_tree_158 _ _ _ hk48 hk71 hk86 x0 x1 x5 x6 x7 x5 x6 h rx1 rx5 rx6 rx7 rx5 rx6 H
noncomputable def fX12_tree_86 (k48 : Nat → Int → Hp → Option (Int × Hp)) (k71 : Nat → Int → Int → Int → Int → Int → Hp → Option (Int × Hp)) : Nat → Nat → Int → Int → Int → Int → Int → Int → Hp → Option (Int × Hp)
  | 0, _, _, _, _, _, _, _, _ => none
  | n + 1, x0, x1, x2, x3, x4, x5, x6, h => (cob h 11 x0).bind fun _ => (fX12_n x0 h).bind fun p2 => if p2.1 ≤ x6 then (fX12_tree_164 k48 k71 x0 x1 x2 x3 x4 x5 p2.2) else ((getR p2.2 11 x0 20).bind fun v4 => (ald p2.2 0 v4 x5).bind fun v5 => if v5 = x5 then ((getR p2.2 11 x0 20).bind fun v7 => (ald p2.2 0 v7 x6).bind fun v8 => if v8 = x6 then ((cob p2.2 11 x0).bind fun _ => (fX12_heightOf x0 x1 x5 x6 p2.2).bind fun p11 => if x2 = (-1) then (fX12_tree_148 k48 k71 (fX12_tree_86 k48 k71 n) x0 x1 x5 x6 p11.1 p11.2) else (if p11.1 < x4 then (fX12_tree_148 k48 k71 (fX12_tree_86 k48 k71 n) x0 x1 x5 x6 p11.1 p11.2) else (fX12_tree_158 k48 k71 (fX12_tree_86 k48 k71 n) x0 x1 x2 x3 x4 x5 x6 p11.2))) else (fX12_tree_158 k48 k71 (fX12_tree_86 k48 k71 n) x0 x1 x2 x3 x4 x5 x6 p2.2)) else (fX12_tree_164 k48 k71 x0 x1 x2 x3 x4 x5 p2.2))
theorem tX12_tree_86 {L : Nat} {xs : Nat → Int32} {l : Launch} {res : Int × Hp} (k48 : Nat → Int → Hp → Option (Int × Hp)) (k71 : Nat → Int → Int → Int → Int → Int → Hp → Option (Int × Hp)) (hk48 : ∀ (x0 : Nat) (x1 : Int) (h : Hp), R32 x1 → k48 x0 x1 h = some res → J L xs l RX12 cX12_tree 8 false 3 (QI res) 0 0 48 [(0, vr x0), (1, vi x1)] [] h) (hk71 : ∀ (x0 : Nat) (x1 : Int) (x2 : Int) (x3 : Int) (x4 : Int) (x5 : Int) (h : Hp), R32 x1 → R32 x2 → R32 x3 → R32 x4 → R32 x5 → k71 x0 x1 x2 x3 x4 x5 h = some res → J L xs l RX12 cX12_tree 8 false 3 (QI res) 0 0 71 [(0, vr x0), (1, vi x1), (2, vi x2), (3, vi x3), (4, vi x4), (5, vi x5)] [] h) : ∀ (n : Nat) (x0 : Nat) (x1 : Int) (x2 : Int) (x3 : Int) (x4 : Int) (x5 : Int) (x6 : Int) (h : Hp), R32 x1 → R32 x2 → R32 x3 → R32 x4 → R32 x5 → R32 x6 → fX12_tree_86 k48 k71 n x0 x1 x2 x3 x4 x5 x6 h = some res → J L xs l RX12 cX12_tree 8 false 3 (QI res) 0 0 86 [(0, vr x0), (1, vi x1), (2, vi x2), (3, vi x3), (4, vi x4), (5, vi x5), (6, vi x6)] [] h := by
  intro n
  induction n with
  | zero => intro x0 x1 x2 x3 x4 x5 x6 h rx1 rx2 rx3 rx4 rx5 rx6 H; cases H
  | succ n ih =>
    intro x0 x1 x2 x3 x4 x5 x6 h rx1 rx2 rx3 rx4 rx5 rx6 H
    rw [fX12_tree_86] at H
    refine j_iload (pc' := 88) dX12_tree_86 rfl 6 rfl ?_
    refine j_aload_n (i := 0) (pc' := 89) dX12_tree_88 rfl rfl 0 rfl ?_
    obtain ⟨u1, e1, H⟩ := bs H
    obtain ⟨p2, e2, H⟩ := bs H
    refine j_cVi (y := yX12_n) (dY := 1) (vs := []) (st := [vi x6]) (q := x0) (pc' := 92) dX12_tree_89 rfl ymX12_n yvX12_n ml_X12_90 (by decide) rfl (Nat.le_of_ble_eq_true rfl) (Nat.le_of_ble_eq_true rfl) e1 (tX12_n x0 h e2) (fun r2 z2 => ?_)
    refine j_icmp_ge (tgt := 164) (pc' := 95) dX12_tree_92 (by decide) rfl rx6 r2 (fun c3 => ?_) (fun c3 => ?_)
    · rw [if_pos c3] at H
      refine j_sub (lv' := [(0, vr x0), (1, vi x1), (2, vi x2), (3, vi x3), (4, vi x4), (5, vi x5)]) [0, 1, 2, 3, 4, 5] rfl ?_
      exact tX12_tree_164 _ _ hk48 hk71 x0 x1 x2 x3 x4 x5 p2.2 rx1 rx2 rx3 rx4 rx5 H
    · rw [if_neg c3] at H
      refine j_aload_n (i := 0) (pc' := 96) dX12_tree_95 rfl rfl 0 rfl ?_
      obtain ⟨v4, e4, H⟩ := bs H
      refine j_getR (pc' := 99) dX12_tree_96 rfl fl_X12_58 e4 (fun r4 => ?_)
      refine j_iload (pc' := 101) dX12_tree_99 rfl 5 rfl ?_
      obtain ⟨v5, e5, H⟩ := bs H
      refine j_iald (pc' := 102) dX12_tree_101 rfl e5 (fun r5 => ?_)
      refine j_iload (pc' := 104) dX12_tree_102 rfl 5 rfl ?_
      refine j_icmp_ne (tgt := 164) (pc' := 107) dX12_tree_104 (by decide) rfl r5 rx5 (fun c6 => ?_) (fun c6 => ?_)
      · rw [if_neg c6] at H
        refine j_sub (lv' := [(0, vr x0), (1, vi x1), (2, vi x2), (3, vi x3), (4, vi x4), (5, vi x5)]) [0, 1, 2, 3, 4, 5] rfl ?_
        exact tX12_tree_164 _ _ hk48 hk71 x0 x1 x2 x3 x4 x5 p2.2 rx1 rx2 rx3 rx4 rx5 H
      · rw [if_pos c6] at H
        refine j_aload_n (i := 0) (pc' := 108) dX12_tree_107 rfl rfl 0 rfl ?_
        obtain ⟨v7, e7, H⟩ := bs H
        refine j_getR (pc' := 111) dX12_tree_108 rfl fl_X12_58 e7 (fun r7 => ?_)
        refine j_iload (pc' := 113) dX12_tree_111 rfl 6 rfl ?_
        obtain ⟨v8, e8, H⟩ := bs H
        refine j_iald (pc' := 114) dX12_tree_113 rfl e8 (fun r8 => ?_)
        refine j_iload (pc' := 116) dX12_tree_114 rfl 6 rfl ?_
        refine j_icmp_eq (tgt := 122) (pc' := 119) dX12_tree_116 (by decide) rfl r8 rx6 (fun c9 => ?_) (fun c9 => ?_)
        · rw [if_pos c9] at H
          refine j_aload_n (i := 0) (pc' := 123) dX12_tree_122 rfl rfl 0 rfl ?_
          refine j_iload_n (i := 1) (pc' := 124) dX12_tree_123 rfl rfl 1 rfl ?_
          refine j_iload (pc' := 126) dX12_tree_124 rfl 5 rfl ?_
          refine j_iload (pc' := 128) dX12_tree_126 rfl 6 rfl ?_
          obtain ⟨u10, e10, H⟩ := bs H
          obtain ⟨p11, e11, H⟩ := bs H
          refine j_cVi (y := yX12_heightOf) (dY := 2) (vs := [vi x1, vi x5, vi x6]) (st := []) (q := x0) (pc' := 131) dX12_tree_128 rfl ymX12_heightOf yvX12_heightOf ml_X12_204 (by decide) rfl (Nat.le_of_ble_eq_true rfl) (Nat.le_of_ble_eq_true rfl) e10 (tX12_heightOf x0 x1 x5 x6 p2.2 rx1 rx5 rx6 e11) (fun r11 z11 => ?_)
          refine j_istore (lv' := [(0, vr x0), (1, vi x1), (2, vi x2), (3, vi x3), (4, vi x4), (5, vi x5), (6, vi x6), (7, vi p11.1)]) (pc' := 133) dX12_tree_131 rfl (by decide) [1, 2, 3, 4, 5, 6, 7, 0] rfl ?_
          refine j_iload_n (i := 2) (pc' := 134) dX12_tree_133 rfl rfl 2 rfl ?_
          refine j_iconst (pc' := 135) dX12_tree_134 rfl ?_
          refine j_icmp_eq (tgt := 148) (pc' := 138) dX12_tree_135 (by decide) rfl rx2 ⟨by decide, by decide⟩ (fun c12 => ?_) (fun c12 => ?_)
          · rw [if_pos c12] at H
            refine j_sub (lv' := [(0, vr x0), (1, vi x1), (5, vi x5), (6, vi x6), (7, vi p11.1)]) [0, 1, 5, 6, 7] rfl ?_
            exact tX12_tree_148 _ _ _ hk48 hk71 ih x0 x1 x5 x6 p11.1 p11.2 rx1 rx5 rx6 r11 H
          · rw [if_neg c12] at H
            refine j_iload (pc' := 140) dX12_tree_138 rfl 7 rfl ?_
            refine j_iload (pc' := 142) dX12_tree_140 rfl 4 rfl ?_
            refine j_icmp_lt (tgt := 148) (pc' := 145) dX12_tree_142 (by decide) rfl r11 rx4 (fun c13 => ?_) (fun c13 => ?_)
            · rw [if_pos c13] at H
              refine j_sub (lv' := [(0, vr x0), (1, vi x1), (5, vi x5), (6, vi x6), (7, vi p11.1)]) [0, 1, 5, 6, 7] rfl ?_
              exact tX12_tree_148 _ _ _ hk48 hk71 ih x0 x1 x5 x6 p11.1 p11.2 rx1 rx5 rx6 r11 H
            · rw [if_neg c13] at H
              refine j_goto (tgt := 158) dX12_tree_145 (by decide) ?_
              refine j_sub (lv' := [(0, vr x0), (1, vi x1), (2, vi x2), (3, vi x3), (4, vi x4), (5, vi x5), (6, vi x6)]) [0, 1, 2, 3, 4, 5, 6] rfl ?_
              exact tX12_tree_158 _ _ _ hk48 hk71 ih x0 x1 x2 x3 x4 x5 x6 p11.2 rx1 rx2 rx3 rx4 rx5 rx6 H
        · rw [if_neg c9] at H
          refine j_goto (tgt := 158) dX12_tree_119 (by decide) ?_
          exact tX12_tree_158 _ _ _ hk48 hk71 ih x0 x1 x2 x3 x4 x5 x6 p2.2 rx1 rx2 rx3 rx4 rx5 rx6 H
noncomputable def fX12_tree_71 (k48 : Nat → Int → Hp → Option (Int × Hp)) : Nat → Nat → Int → Int → Int → Int → Int → Hp → Option (Int × Hp)
  | 0, _, _, _, _, _, _, _ => none
  | n + 1, x0, x1, x2, x3, x4, x5, h => (cob h 11 x0).bind fun _ => (fX12_n x0 h).bind fun p2 => if p2.1 ≤ x5 then (fX12_tree_170 k48 x0 x1 x2 x3 x4 p2.2) else ((c32 (x5 + 1)).bind fun _ => fX12_tree_86 k48 (fX12_tree_71 k48 n) FU x0 x1 x2 x3 x4 x5 (x5 + 1) p2.2)
theorem tX12_tree_71 {L : Nat} {xs : Nat → Int32} {l : Launch} {res : Int × Hp} (k48 : Nat → Int → Hp → Option (Int × Hp)) (hk48 : ∀ (x0 : Nat) (x1 : Int) (h : Hp), R32 x1 → k48 x0 x1 h = some res → J L xs l RX12 cX12_tree 8 false 3 (QI res) 0 0 48 [(0, vr x0), (1, vi x1)] [] h) : ∀ (n : Nat) (x0 : Nat) (x1 : Int) (x2 : Int) (x3 : Int) (x4 : Int) (x5 : Int) (h : Hp), R32 x1 → R32 x2 → R32 x3 → R32 x4 → R32 x5 → fX12_tree_71 k48 n x0 x1 x2 x3 x4 x5 h = some res → J L xs l RX12 cX12_tree 8 false 3 (QI res) 0 0 71 [(0, vr x0), (1, vi x1), (2, vi x2), (3, vi x3), (4, vi x4), (5, vi x5)] [] h := by
  intro n
  induction n with
  | zero => intro x0 x1 x2 x3 x4 x5 h rx1 rx2 rx3 rx4 rx5 H; cases H
  | succ n ih =>
    intro x0 x1 x2 x3 x4 x5 h rx1 rx2 rx3 rx4 rx5 H
    rw [fX12_tree_71] at H
    refine j_iload (pc' := 73) dX12_tree_71 rfl 5 rfl ?_
    refine j_aload_n (i := 0) (pc' := 74) dX12_tree_73 rfl rfl 0 rfl ?_
    obtain ⟨u1, e1, H⟩ := bs H
    obtain ⟨p2, e2, H⟩ := bs H
    refine j_cVi (y := yX12_n) (dY := 1) (vs := []) (st := [vi x5]) (q := x0) (pc' := 77) dX12_tree_74 rfl ymX12_n yvX12_n ml_X12_90 (by decide) rfl (Nat.le_of_ble_eq_true rfl) (Nat.le_of_ble_eq_true rfl) e1 (tX12_n x0 h e2) (fun r2 z2 => ?_)
    refine j_icmp_ge (tgt := 170) (pc' := 80) dX12_tree_77 (by decide) rfl rx5 r2 (fun c3 => ?_) (fun c3 => ?_)
    · rw [if_pos c3] at H
      refine j_sub (lv' := [(0, vr x0), (1, vi x1), (2, vi x2), (3, vi x3), (4, vi x4)]) [0, 1, 2, 3, 4] rfl ?_
      exact tX12_tree_170 _ hk48 x0 x1 x2 x3 x4 p2.2 rx1 rx2 rx3 rx4 H
    · rw [if_neg c3] at H
      refine j_iload (pc' := 82) dX12_tree_80 rfl 5 rfl ?_
      refine j_iconst (pc' := 83) dX12_tree_82 rfl ?_
      refine j_iadd (pc' := 84) dX12_tree_83 rfl ?_
      obtain ⟨u4, e4, H⟩ := bs H
      have r4 := c32_R e4
      refine j_istore (lv' := [(0, vr x0), (1, vi x1), (2, vi x2), (3, vi x3), (4, vi x4), (5, vi x5), (6, vi (x5 + 1))]) (pc' := 86) dX12_tree_84 rfl (by decide) [1, 2, 3, 4, 5, 6, 0] rfl ?_
      exact tX12_tree_86 _ _ hk48 ih FU x0 x1 x2 x3 x4 x5 (x5 + 1) p2.2 rx1 rx2 rx3 rx4 rx5 r4 H
noncomputable def fX12_tree_48 : Nat → Nat → Int → Hp → Option (Int × Hp)
  | 0, _, _, _ => none
  | n + 1, x0, x1, h => (getI h 11 x0 11).bind fun v1 => (cob h 11 x0).bind fun _ => (fX12_n x0 h).bind fun p3 => (c32 (p3.1 - 1)).bind fun _ => if (p3.1 - 1) ≤ v1 then (fX12_tree_251 x0 p3.2) else (fX12_tree_71 (fX12_tree_48 n) FU x0 x1 (-1) (-1) 0 0 p3.2)
theorem tX12_tree_48 {L : Nat} {xs : Nat → Int32} {l : Launch} {res : Int × Hp} : ∀ (n : Nat) (x0 : Nat) (x1 : Int) (h : Hp), R32 x1 → fX12_tree_48 n x0 x1 h = some res → J L xs l RX12 cX12_tree 8 false 3 (QI res) 0 0 48 [(0, vr x0), (1, vi x1)] [] h := by
  intro n
  induction n with
  | zero => intro x0 x1 h rx1 H; cases H
  | succ n ih =>
    intro x0 x1 h rx1 H
    rw [fX12_tree_48] at H
    refine j_aload_n (i := 0) (pc' := 49) dX12_tree_48 rfl rfl 0 rfl ?_
    obtain ⟨v1, e1, H⟩ := bs H
    refine j_getI (pc' := 52) dX12_tree_49 rfl fl_X12_37 e1 (fun r1 => ?_)
    refine j_aload_n (i := 0) (pc' := 53) dX12_tree_52 rfl rfl 0 rfl ?_
    obtain ⟨u2, e2, H⟩ := bs H
    obtain ⟨p3, e3, H⟩ := bs H
    refine j_cVi (y := yX12_n) (dY := 1) (vs := []) (st := [vi v1]) (q := x0) (pc' := 56) dX12_tree_53 rfl ymX12_n yvX12_n ml_X12_90 (by decide) rfl (Nat.le_of_ble_eq_true rfl) (Nat.le_of_ble_eq_true rfl) e2 (tX12_n x0 h e3) (fun r3 z3 => ?_)
    refine j_iconst (pc' := 57) dX12_tree_56 rfl ?_
    refine j_isub (pc' := 58) dX12_tree_57 rfl ?_
    obtain ⟨u4, e4, H⟩ := bs H
    have r4 := c32_R e4
    refine j_icmp_ge (tgt := 251) (pc' := 61) dX12_tree_58 (by decide) rfl r1 r4 (fun c5 => ?_) (fun c5 => ?_)
    · rw [if_pos c5] at H
      refine j_sub (lv' := [(0, vr x0)]) [0] rfl ?_
      exact tX12_tree_251   x0 p3.2  H
    · rw [if_neg c5] at H
      refine j_iconst (pc' := 62) dX12_tree_61 rfl ?_
      refine j_istore_n (i := 2) (lv' := [(0, vr x0), (1, vi x1), (2, vi (-1))]) (pc' := 63) dX12_tree_62 rfl rfl (by decide) [1, 2, 0] rfl ?_
      refine j_iconst (pc' := 64) dX12_tree_63 rfl ?_
      refine j_istore_n (i := 3) (lv' := [(0, vr x0), (1, vi x1), (2, vi (-1)), (3, vi (-1))]) (pc' := 65) dX12_tree_64 rfl rfl (by decide) [1, 2, 3, 0] rfl ?_
      refine j_iconst (pc' := 66) dX12_tree_65 rfl ?_
      refine j_istore (lv' := [(0, vr x0), (1, vi x1), (2, vi (-1)), (3, vi (-1)), (4, vi 0)]) (pc' := 68) dX12_tree_66 rfl (by decide) [1, 2, 3, 4, 0] rfl ?_
      refine j_iconst (pc' := 69) dX12_tree_68 rfl ?_
      refine j_istore (lv' := [(0, vr x0), (1, vi x1), (2, vi (-1)), (3, vi (-1)), (4, vi 0), (5, vi 0)]) (pc' := 71) dX12_tree_69 rfl (by decide) [1, 2, 3, 4, 5, 0] rfl ?_
      exact tX12_tree_71 _ ih FU x0 x1 (-1) (-1) 0 0 p3.2 rx1 ⟨by decide, by decide⟩ ⟨by decide, by decide⟩ ⟨by decide, by decide⟩ ⟨by decide, by decide⟩ H
noncomputable def fX12_tree_43 (x0 : Nat) (x1 : Int) (h : Hp) : Option (Int × Hp) :=
  (putV h 11 x0 11 (vi 0)).bind fun h1 => fX12_tree_48 FU x0 x1 h1
theorem tX12_tree_43 {L : Nat} {xs : Nat → Int32} {l : Launch} {res : Int × Hp} (x0 : Nat) (x1 : Int) (h : Hp) (rx1 : R32 x1) (H : fX12_tree_43 x0 x1 h = some res) : J L xs l RX12 cX12_tree 8 false 3 (QI res) 0 0 43 [(0, vr x0), (1, vi x1)] [] h := by
  unfold fX12_tree_43 at H
  refine j_aload_n (i := 0) (pc' := 44) dX12_tree_43 rfl rfl 0 rfl ?_
  refine j_iconst (pc' := 45) dX12_tree_44 rfl ?_
  obtain ⟨h1, e1, H⟩ := bs H
  refine j_putV (pc' := 48) dX12_tree_45 rfl fp_X12_37 tI ⟨by decide, by decide⟩ e1 ?_
  exact tX12_tree_48   FU x0 x1 h1 rx1 H
noncomputable def fX12_tree_22 : Nat → Nat → Int → Int → Hp → Option (Int × Hp)
  | 0, _, _, _, _ => none
  | n + 1, x0, x1, x2, h => (cob h 11 x0).bind fun _ => (fX12_n x0 h).bind fun p2 => if p2.1 ≤ x2 then (fX12_tree_43 x0 x1 p2.2) else ((getR p2.2 11 x0 20).bind fun v4 => (ast p2.2 0 v4 x2 x2).bind fun h5 => (c32 (x2 + 1)).bind fun _ => fX12_tree_22 n x0 x1 (x2 + 1) h5)
theorem tX12_tree_22 {L : Nat} {xs : Nat → Int32} {l : Launch} {res : Int × Hp} : ∀ (n : Nat) (x0 : Nat) (x1 : Int) (x2 : Int) (h : Hp), R32 x1 → R32 x2 → fX12_tree_22 n x0 x1 x2 h = some res → J L xs l RX12 cX12_tree 8 false 3 (QI res) 0 0 22 [(0, vr x0), (1, vi x1), (2, vi x2)] [] h := by
  intro n
  induction n with
  | zero => intro x0 x1 x2 h rx1 rx2 H; cases H
  | succ n ih =>
    intro x0 x1 x2 h rx1 rx2 H
    rw [fX12_tree_22] at H
    refine j_iload_n (i := 2) (pc' := 23) dX12_tree_22 rfl rfl 2 rfl ?_
    refine j_aload_n (i := 0) (pc' := 24) dX12_tree_23 rfl rfl 0 rfl ?_
    obtain ⟨u1, e1, H⟩ := bs H
    obtain ⟨p2, e2, H⟩ := bs H
    refine j_cVi (y := yX12_n) (dY := 1) (vs := []) (st := [vi x2]) (q := x0) (pc' := 27) dX12_tree_24 rfl ymX12_n yvX12_n ml_X12_90 (by decide) rfl (Nat.le_of_ble_eq_true rfl) (Nat.le_of_ble_eq_true rfl) e1 (tX12_n x0 h e2) (fun r2 z2 => ?_)
    refine j_icmp_ge (tgt := 43) (pc' := 30) dX12_tree_27 (by decide) rfl rx2 r2 (fun c3 => ?_) (fun c3 => ?_)
    · rw [if_pos c3] at H
      refine j_sub (lv' := [(0, vr x0), (1, vi x1)]) [0, 1] rfl ?_
      exact tX12_tree_43   x0 x1 p2.2 rx1 H
    · rw [if_neg c3] at H
      refine j_aload_n (i := 0) (pc' := 31) dX12_tree_30 rfl rfl 0 rfl ?_
      obtain ⟨v4, e4, H⟩ := bs H
      refine j_getR (pc' := 34) dX12_tree_31 rfl fl_X12_58 e4 (fun r4 => ?_)
      refine j_iload_n (i := 2) (pc' := 35) dX12_tree_34 rfl rfl 2 rfl ?_
      refine j_iload_n (i := 2) (pc' := 36) dX12_tree_35 rfl rfl 2 rfl ?_
      obtain ⟨h5, e5, H⟩ := bs H
      refine j_iast (pc' := 37) dX12_tree_36 rfl rx2 e5 ?_
      obtain ⟨u6, e6, H⟩ := bs H
      have r6 := c32_R e6
      refine j_iinc (k0 := 2) (lv' := [(0, vr x0), (1, vi x1), (2, vi (x2 + 1))]) (pc' := 40) dX12_tree_37 rfl rfl (by decide) [1, 2, 0] rfl ?_
      refine j_goto (tgt := 22) dX12_tree_40 (by decide) ?_
      exact ih x0 x1 (x2 + 1) h5 rx1 r6 H
noncomputable def fX12_tree (a0 : Nat) (a1 : Int) (h : Hp) : Option (Int × Hp) :=
  (putV h 11 a0 19 (vi 0)).bind fun h1 => if a1 < 0 then (fX12_tree_14 a0 h1) else (if a1 ≤ 1 then (fX12_tree_22 FU a0 a1 0 h1) else (fX12_tree_14 a0 h1))
theorem tX12_tree {L : Nat} {xs : Nat → Int32} {l : Launch} {res : Int × Hp} (a0 : Nat) (a1 : Int) (h : Hp) (ra1 : R32 a1) (H : fX12_tree a0 a1 h = some res) : J L xs l RX12 cX12_tree 8 false 3 (QI res) 0 0 0 (alv 0 [vr a0, vi a1]) [] h := by
  unfold fX12_tree at H
  show J L xs l RX12 cX12_tree 8 false 3 (QI res) 0 0 0 [(0, vr a0), (1, vi a1)] [] h
  refine j_aload_n (i := 0) (pc' := 1) dX12_tree_0 rfl rfl 0 rfl ?_
  refine j_iconst (pc' := 2) dX12_tree_1 rfl ?_
  obtain ⟨h1, e1, H⟩ := bs H
  refine j_putV (pc' := 5) dX12_tree_2 rfl fp_X12_77 tI ⟨by decide, by decide⟩ e1 ?_
  refine j_iload_n (i := 1) (pc' := 6) dX12_tree_5 rfl rfl 1 rfl ?_
  refine j_if_lt (tgt := 14) (pc' := 9) dX12_tree_6 (by decide) rfl ra1 (fun c2 => ?_) (fun c2 => ?_)
  · rw [if_pos c2] at H
    refine j_sub (lv' := [(0, vr a0)]) [0] rfl ?_
    exact tX12_tree_14   a0 h1  H
  · rw [if_neg c2] at H
    refine j_iload_n (i := 1) (pc' := 10) dX12_tree_9 rfl rfl 1 rfl ?_
    refine j_iconst (pc' := 11) dX12_tree_10 rfl ?_
    refine j_icmp_le (tgt := 20) (pc' := 14) dX12_tree_11 (by decide) rfl ra1 ⟨by decide, by decide⟩ (fun c3 => ?_) (fun c3 => ?_)
    · rw [if_pos c3] at H
      refine j_iconst (pc' := 21) dX12_tree_20 rfl ?_
      refine j_istore_n (i := 2) (lv' := [(0, vr a0), (1, vi a1), (2, vi 0)]) (pc' := 22) dX12_tree_21 rfl rfl (by decide) [1, 2, 0] rfl ?_
      exact tX12_tree_22   FU a0 a1 0 h1 ra1 ⟨by decide, by decide⟩ H
    · rw [if_neg c3] at H
      refine j_sub (lv' := [(0, vr a0)]) [0] rfl ?_
      exact tX12_tree_14   a0 h1  H
-- X12_joined
noncomputable def fX12_joined_40 (x0 : Nat) (h : Hp) : Option (Int × Hp) :=
  (cob h 11 x0).bind fun _ => (fX12_no x0 1 h).bind fun p2 => some (p2.1, p2.2)
theorem tX12_joined_40 {L : Nat} {xs : Nat → Int32} {l : Launch} {res : Int × Hp} (x0 : Nat) (h : Hp)  (H : fX12_joined_40 x0 h = some res) : J L xs l RX12 cX12_joined 3 false 2 (QI res) 0 0 40 [(0, vr x0)] [] h := by
  unfold fX12_joined_40 at H
  refine j_aload_n (i := 0) (pc' := 41) dX12_joined_40 rfl rfl 0 rfl ?_
  refine j_iconst (pc' := 42) dX12_joined_41 rfl ?_
  obtain ⟨u1, e1, H⟩ := bs H
  obtain ⟨p2, e2, H⟩ := bs H
  refine j_cVi (y := yX12_no) (dY := 1) (vs := [vi 1]) (st := []) (q := x0) (pc' := 45) dX12_joined_42 rfl ymX12_no yvX12_no ml_X12_98 (by decide) rfl (Nat.le_of_ble_eq_true rfl) (Nat.le_of_ble_eq_true rfl) e1 (tX12_no x0 1 h ⟨by decide, by decide⟩ e2) (fun r2 z2 => ?_)
  obtain rfl := Option.some.inj H
  exact j_iret dX12_joined_45 r2 ⟨rfl, rfl⟩
noncomputable def fX12_joined_79 (s0 : Int) (h : Hp) : Option (Int × Hp) :=
  some (s0, h)
theorem tX12_joined_79 {L : Nat} {xs : Nat → Int32} {l : Launch} {res : Int × Hp} (s0 : Int) (h : Hp) (rs0 : R32 s0) (H : fX12_joined_79 s0 h = some res) : J L xs l RX12 cX12_joined 3 false 2 (QI res) 0 0 79 [] [vi s0] h := by
  unfold fX12_joined_79 at H
  obtain rfl := Option.some.inj H
  exact j_iret dX12_joined_79 rs0 ⟨rfl, rfl⟩
noncomputable def fX12_joined (a0 : Nat) (a1 : Int) (a2 : Int) (h : Hp) : Option (Int × Hp) :=
  (putV h 11 a0 19 (vi 0)).bind fun h1 => (getI h1 11 a0 11).bind fun v2 => if v2 = (-1) then ((cob h1 11 a0).bind fun _ => (fX12_no a0 2 h1).bind fun p18 => some (p18.1, p18.2)) else (if a1 < 0 then (fX12_joined_40 a0 h1) else ((getI h1 11 a0 11).bind fun v5 => if v5 ≤ a1 then (fX12_joined_40 a0 h1) else (if a2 < 0 then (fX12_joined_40 a0 h1) else (if a2 ≤ 2 then (if a2 = 0 then ((getR h1 11 a0 12).bind fun v15 => (ald h1 0 v15 a1).bind fun v16 => fX12_joined_79 v16 h1) else (if a2 = 1 then ((getR h1 11 a0 13).bind fun v13 => (ald h1 0 v13 a1).bind fun v14 => fX12_joined_79 v14 h1) else ((getR h1 11 a0 14).bind fun v11 => (ald h1 0 v11 a1).bind fun v12 => fX12_joined_79 v12 h1))) else (fX12_joined_40 a0 h1)))))
theorem tX12_joined {L : Nat} {xs : Nat → Int32} {l : Launch} {res : Int × Hp} (a0 : Nat) (a1 : Int) (a2 : Int) (h : Hp) (ra1 : R32 a1) (ra2 : R32 a2) (H : fX12_joined a0 a1 a2 h = some res) : J L xs l RX12 cX12_joined 3 false 2 (QI res) 0 0 0 (alv 0 [vr a0, vi a1, vi a2]) [] h := by
  unfold fX12_joined at H
  show J L xs l RX12 cX12_joined 3 false 2 (QI res) 0 0 0 [(0, vr a0), (1, vi a1), (2, vi a2)] [] h
  refine j_aload_n (i := 0) (pc' := 1) dX12_joined_0 rfl rfl 0 rfl ?_
  refine j_iconst (pc' := 2) dX12_joined_1 rfl ?_
  obtain ⟨h1, e1, H⟩ := bs H
  refine j_putV (pc' := 5) dX12_joined_2 rfl fp_X12_77 tI ⟨by decide, by decide⟩ e1 ?_
  refine j_aload_n (i := 0) (pc' := 6) dX12_joined_5 rfl rfl 0 rfl ?_
  obtain ⟨v2, e2, H⟩ := bs H
  refine j_getI (pc' := 9) dX12_joined_6 rfl fl_X12_37 e2 (fun r2 => ?_)
  refine j_iconst (pc' := 10) dX12_joined_9 rfl ?_
  refine j_icmp_ne (tgt := 19) (pc' := 13) dX12_joined_10 (by decide) rfl r2 ⟨by decide, by decide⟩ (fun c3 => ?_) (fun c3 => ?_)
  · rw [if_neg c3] at H
    refine j_iload_n (i := 1) (pc' := 20) dX12_joined_19 rfl rfl 1 rfl ?_
    refine j_if_lt (tgt := 40) (pc' := 23) dX12_joined_20 (by decide) rfl ra1 (fun c4 => ?_) (fun c4 => ?_)
    · rw [if_pos c4] at H
      refine j_sub (lv' := [(0, vr a0)]) [0] rfl ?_
      exact tX12_joined_40   a0 h1  H
    · rw [if_neg c4] at H
      refine j_iload_n (i := 1) (pc' := 24) dX12_joined_23 rfl rfl 1 rfl ?_
      refine j_aload_n (i := 0) (pc' := 25) dX12_joined_24 rfl rfl 0 rfl ?_
      obtain ⟨v5, e5, H⟩ := bs H
      refine j_getI (pc' := 28) dX12_joined_25 rfl fl_X12_37 e5 (fun r5 => ?_)
      refine j_icmp_ge (tgt := 40) (pc' := 31) dX12_joined_28 (by decide) rfl ra1 r5 (fun c6 => ?_) (fun c6 => ?_)
      · rw [if_pos c6] at H
        refine j_sub (lv' := [(0, vr a0)]) [0] rfl ?_
        exact tX12_joined_40   a0 h1  H
      · rw [if_neg c6] at H
        refine j_iload_n (i := 2) (pc' := 32) dX12_joined_31 rfl rfl 2 rfl ?_
        refine j_if_lt (tgt := 40) (pc' := 35) dX12_joined_32 (by decide) rfl ra2 (fun c7 => ?_) (fun c7 => ?_)
        · rw [if_pos c7] at H
          refine j_sub (lv' := [(0, vr a0)]) [0] rfl ?_
          exact tX12_joined_40   a0 h1  H
        · rw [if_neg c7] at H
          refine j_iload_n (i := 2) (pc' := 36) dX12_joined_35 rfl rfl 2 rfl ?_
          refine j_iconst (pc' := 37) dX12_joined_36 rfl ?_
          refine j_icmp_le (tgt := 46) (pc' := 40) dX12_joined_37 (by decide) rfl ra2 ⟨by decide, by decide⟩ (fun c8 => ?_) (fun c8 => ?_)
          · rw [if_pos c8] at H
            refine j_iload_n (i := 2) (pc' := 47) dX12_joined_46 rfl rfl 2 rfl ?_
            refine j_if_ne (tgt := 59) (pc' := 50) dX12_joined_47 (by decide) rfl ra2 (fun c9 => ?_) (fun c9 => ?_)
            · rw [if_neg c9] at H
              refine j_iload_n (i := 2) (pc' := 60) dX12_joined_59 rfl rfl 2 rfl ?_
              refine j_iconst (pc' := 61) dX12_joined_60 rfl ?_
              refine j_icmp_ne (tgt := 73) (pc' := 64) dX12_joined_61 (by decide) rfl ra2 ⟨by decide, by decide⟩ (fun c10 => ?_) (fun c10 => ?_)
              · rw [if_neg c10] at H
                refine j_aload_n (i := 0) (pc' := 74) dX12_joined_73 rfl rfl 0 rfl ?_
                obtain ⟨v11, e11, H⟩ := bs H
                refine j_getR (pc' := 77) dX12_joined_74 rfl fl_X12_46 e11 (fun r11 => ?_)
                refine j_iload_n (i := 1) (pc' := 78) dX12_joined_77 rfl rfl 1 rfl ?_
                obtain ⟨v12, e12, H⟩ := bs H
                refine j_iald (pc' := 79) dX12_joined_78 rfl e12 (fun r12 => ?_)
                refine j_sub (lv' := []) [] rfl ?_
                exact tX12_joined_79   v12 h1 r12 H
              · rw [if_pos c10] at H
                refine j_aload_n (i := 0) (pc' := 65) dX12_joined_64 rfl rfl 0 rfl ?_
                obtain ⟨v13, e13, H⟩ := bs H
                refine j_getR (pc' := 68) dX12_joined_65 rfl fl_X12_43 e13 (fun r13 => ?_)
                refine j_iload_n (i := 1) (pc' := 69) dX12_joined_68 rfl rfl 1 rfl ?_
                obtain ⟨v14, e14, H⟩ := bs H
                refine j_iald (pc' := 70) dX12_joined_69 rfl e14 (fun r14 => ?_)
                refine j_goto (tgt := 79) dX12_joined_70 (by decide) ?_
                refine j_sub (lv' := []) [] rfl ?_
                exact tX12_joined_79   v14 h1 r14 H
            · rw [if_pos c9] at H
              refine j_aload_n (i := 0) (pc' := 51) dX12_joined_50 rfl rfl 0 rfl ?_
              obtain ⟨v15, e15, H⟩ := bs H
              refine j_getR (pc' := 54) dX12_joined_51 rfl fl_X12_40 e15 (fun r15 => ?_)
              refine j_iload_n (i := 1) (pc' := 55) dX12_joined_54 rfl rfl 1 rfl ?_
              obtain ⟨v16, e16, H⟩ := bs H
              refine j_iald (pc' := 56) dX12_joined_55 rfl e16 (fun r16 => ?_)
              refine j_goto (tgt := 79) dX12_joined_56 (by decide) ?_
              refine j_sub (lv' := []) [] rfl ?_
              exact tX12_joined_79   v16 h1 r16 H
          · rw [if_neg c8] at H
            refine j_sub (lv' := [(0, vr a0)]) [0] rfl ?_
            exact tX12_joined_40   a0 h1  H
  · rw [if_pos c3] at H
    refine j_aload_n (i := 0) (pc' := 14) dX12_joined_13 rfl rfl 0 rfl ?_
    refine j_iconst (pc' := 15) dX12_joined_14 rfl ?_
    obtain ⟨u17, e17, H⟩ := bs H
    obtain ⟨p18, e18, H⟩ := bs H
    refine j_cVi (y := yX12_no) (dY := 1) (vs := [vi 2]) (st := []) (q := a0) (pc' := 18) dX12_joined_15 rfl ymX12_no yvX12_no ml_X12_98 (by decide) rfl (Nat.le_of_ble_eq_true rfl) (Nat.le_of_ble_eq_true rfl) e17 (tX12_no a0 2 h1 ⟨by decide, by decide⟩ e18) (fun r18 z18 => ?_)
    obtain rfl := Option.some.inj H
    exact j_iret dX12_joined_18 r18 ⟨rfl, rfl⟩
