-- X4_run
noncomputable def fX4_run_23 (x3 : Int) (h : Hp) : Option (Int × Hp) :=
  some (x3, h)
theorem tX4_run_23 {L : Nat} {xs : Nat → Int32} {l : Launch} {res : Int × Hp} (x3 : Int) (h : Hp) (rx3 : R32 x3) (H : fX4_run_23 x3 h = some res) : J L xs l RX4 cX4_run 4 false 7 (QI res) 0 0 23 [(3, vi x3)] [] h := by
  unfold fX4_run_23 at H
  refine j_iload_n (i := 3) (pc' := 24) dX4_run_23 rfl rfl 0 rfl ?_
  obtain rfl := Option.some.inj H
  exact j_iret dX4_run_24 rx3 ⟨rfl, rfl⟩
noncomputable def fX4_run_2 : Nat → Nat → Nat → Int → Int → Hp → Option (Int × Hp)
  | 0, _, _, _, _, _ => none
  | n + 1, x0, x1, x2, x3, h => if 1000000 ≤ x3 then (fX4_run_23 x3 h) else ((cob h 3 x0).bind fun _ => (fX4_makeBestMove x0 x1 x2 h).bind fun p3 => if p3.1 = 0 then (fX4_run_23 x3 p3.2) else ((c32 (x3 + 1)).bind fun _ => fX4_run_2 n x0 x1 x2 (x3 + 1) p3.2))
theorem tX4_run_2 {L : Nat} {xs : Nat → Int32} {l : Launch} {res : Int × Hp} : ∀ (n : Nat) (x0 : Nat) (x1 : Nat) (x2 : Int) (x3 : Int) (h : Hp), R32 x2 → R32 x3 → fX4_run_2 n x0 x1 x2 x3 h = some res → J L xs l RX4 cX4_run 4 false 7 (QI res) 0 0 2 [(0, vr x0), (1, vr x1), (2, vi x2), (3, vi x3)] [] h := by
  intro n
  induction n with
  | zero => intro x0 x1 x2 x3 h rx2 rx3 H; cases H
  | succ n ih =>
    intro x0 x1 x2 x3 h rx2 rx3 H
    rw [fX4_run_2] at H
    refine j_iload_n (i := 3) (pc' := 3) dX4_run_2 rfl rfl 3 rfl ?_
    refine j_ldc (z := 1000000) (pc' := 5) dX4_run_3 rfl kk_X4_23 (by decide +kernel) ?_
    refine j_icmp_ge (tgt := 23) (pc' := 8) dX4_run_5 (by decide) rfl rx3 ⟨by decide, by decide⟩ (fun c1 => ?_) (fun c1 => ?_)
    · rw [if_pos c1] at H
      refine j_sub (lv' := [(3, vi x3)]) [3] rfl ?_
      exact tX4_run_23   x3 h rx3 H
    · rw [if_neg c1] at H
      refine j_aload_n (i := 0) (pc' := 9) dX4_run_8 rfl rfl 0 rfl ?_
      refine j_aload_n (i := 1) (pc' := 10) dX4_run_9 rfl rfl 1 rfl ?_
      refine j_iload_n (i := 2) (pc' := 11) dX4_run_10 rfl rfl 2 rfl ?_
      obtain ⟨u2, e2, H⟩ := bs H
      obtain ⟨p3, e3, H⟩ := bs H
      refine j_cVb (y := yX4_makeBestMove) (dY := 6) (vs := [vr x1, vi x2]) (st := []) (q := x0) (pc' := 14) dX4_run_11 rfl ymX4_makeBestMove yvX4_makeBestMove ml_X4_24 (by decide) rfl (Nat.le_of_ble_eq_true rfl) (Nat.le_of_ble_eq_true rfl) e2 (tX4_makeBestMove x0 x1 x2 h rx2 e3) (fun r3 b3 z3 => ?_)
      refine j_if_eq (tgt := 23) (pc' := 17) dX4_run_14 (by decide) rfl r3 (fun c4 => ?_) (fun c4 => ?_)
      · rw [if_pos c4] at H
        refine j_sub (lv' := [(3, vi x3)]) [3] rfl ?_
        exact tX4_run_23   x3 p3.2 rx3 H
      · rw [if_neg c4] at H
        obtain ⟨u5, e5, H⟩ := bs H
        have r5 := c32_R e5
        refine j_iinc (k0 := 3) (lv' := [(0, vr x0), (1, vr x1), (2, vi x2), (3, vi (x3 + 1))]) (pc' := 20) dX4_run_17 rfl rfl (by decide) [1, 2, 3, 0] rfl ?_
        refine j_goto (tgt := 2) dX4_run_20 (by decide) ?_
        exact ih x0 x1 x2 (x3 + 1) p3.2 rx2 r5 H
noncomputable def fX4_run (a0 : Nat) (a1 : Nat) (a2 : Int) (h : Hp) : Option (Int × Hp) :=
  fX4_run_2 FU a0 a1 a2 0 h
theorem tX4_run {L : Nat} {xs : Nat → Int32} {l : Launch} {res : Int × Hp} (a0 : Nat) (a1 : Nat) (a2 : Int) (h : Hp) (ra2 : R32 a2) (H : fX4_run a0 a1 a2 h = some res) : J L xs l RX4 cX4_run 4 false 7 (QI res) 0 0 0 (alv 0 [vr a0, vr a1, vi a2]) [] h := by
  unfold fX4_run at H
  show J L xs l RX4 cX4_run 4 false 7 (QI res) 0 0 0 [(0, vr a0), (1, vr a1), (2, vi a2)] [] h
  refine j_iconst (pc' := 1) dX4_run_0 rfl ?_
  refine j_istore_n (i := 3) (lv' := [(0, vr a0), (1, vr a1), (2, vi a2), (3, vi 0)]) (pc' := 2) dX4_run_1 rfl rfl (by decide) [1, 2, 3, 0] rfl ?_
  exact tX4_run_2   FU a0 a1 a2 0 h ra2 ⟨by decide, by decide⟩ H
-- X5_init
noncomputable def fX5_init_118  (h : Hp) : Option (Hp) :=
  some h
theorem tX5_init_118 {L : Nat} {xs : Nat → Int32} {l : Launch} {res : Hp}  (h : Hp)  (H : fX5_init_118  h = some res) : J L xs l RX5 cX5_init 3 true 1 (QV res) 0 0 118 [] [] h := by
  unfold fX5_init_118 at H
  obtain rfl := Option.some.inj H
  exact j_vret dX5_init_118 ⟨rfl, rfl⟩
noncomputable def fX5_init_112 (k47 : Nat → Int → Hp → Option (Hp)) (x0 : Nat) (x1 : Int) (h : Hp) : Option (Hp) :=
  (c32 (x1 + 1)).bind fun _ => k47 x0 (x1 + 1) h
theorem tX5_init_112 {L : Nat} {xs : Nat → Int32} {l : Launch} {res : Hp} (k47 : Nat → Int → Hp → Option (Hp)) (hk47 : ∀ (x0 : Nat) (x1 : Int) (h : Hp), R32 x1 → k47 x0 x1 h = some res → J L xs l RX5 cX5_init 3 true 1 (QV res) 0 0 47 [(0, vr x0), (1, vi x1)] [] h) (x0 : Nat) (x1 : Int) (h : Hp) (rx1 : R32 x1) (H : fX5_init_112 k47 x0 x1 h = some res) : J L xs l RX5 cX5_init 3 true 1 (QV res) 0 0 112 [(0, vr x0), (1, vi x1)] [] h := by
  unfold fX5_init_112 at H
  obtain ⟨u1, e1, H⟩ := bs H
  have r1 := c32_R e1
  refine j_iinc (k0 := 1) (lv' := [(0, vr x0), (1, vi (x1 + 1))]) (pc' := 115) dX5_init_112 rfl rfl (by decide) [1, 0] rfl ?_
  refine j_goto (tgt := 47) dX5_init_115 (by decide) ?_
  exact hk47 x0 (x1 + 1) h r1 H
noncomputable def fX5_init_55 (k47 : Nat → Int → Hp → Option (Hp)) : Nat → Nat → Int → Int → Hp → Option (Hp)
  | 0, _, _, _, _ => none
  | n + 1, x0, x1, x2, h => (c32 (x2 + x1)).bind fun _ => if 13 ≤ (x2 + x1) then (fX5_init_112 k47 x0 x1 h) else ((getR h 4 x0 0).bind fun v3 => (getR h 4 x0 0).bind fun v4 => (ald h 1 v4 (((x2 * 13) + x1) - 1)).bind fun v5 => (getR h 4 x0 0).bind fun v6 => (ald h 1 v6 ((((x2 + 1) * 13) + x1) - 1)).bind fun v7 => (c64 ((x2 * v5) + v7)).bind fun _ => (ast h 1 v3 ((x2 * 13) + x1) ((x2 * v5) + v7)).bind fun h9 => (c32 (x2 + 1)).bind fun _ => fX5_init_55 k47 n x0 x1 (x2 + 1) h9)
theorem tX5_init_55 {L : Nat} {xs : Nat → Int32} {l : Launch} {res : Hp} (k47 : Nat → Int → Hp → Option (Hp)) (hk47 : ∀ (x0 : Nat) (x1 : Int) (h : Hp), R32 x1 → k47 x0 x1 h = some res → J L xs l RX5 cX5_init 3 true 1 (QV res) 0 0 47 [(0, vr x0), (1, vi x1)] [] h) : ∀ (n : Nat) (x0 : Nat) (x1 : Int) (x2 : Int) (h : Hp), R32 x1 → R32 x2 → fX5_init_55 k47 n x0 x1 x2 h = some res → J L xs l RX5 cX5_init 3 true 1 (QV res) 0 0 55 [(0, vr x0), (1, vi x1), (2, vi x2)] [] h := by
  intro n
  induction n with
  | zero => intro x0 x1 x2 h rx1 rx2 H; cases H
  | succ n ih =>
    intro x0 x1 x2 h rx1 rx2 H
    rw [fX5_init_55] at H
    refine j_iload_n (i := 2) (pc' := 56) dX5_init_55 rfl rfl 2 rfl ?_
    refine j_iload_n (i := 1) (pc' := 57) dX5_init_56 rfl rfl 1 rfl ?_
    refine j_iadd (pc' := 58) dX5_init_57 rfl ?_
    refine j_bipush (pc' := 60) dX5_init_58 rfl (by decide +kernel) ?_
    obtain ⟨u1, e1, H⟩ := bs H
    have r1 := c32_R e1
    refine j_icmp_ge (tgt := 112) (pc' := 63) dX5_init_60 (by decide) rfl r1 ⟨by decide, by decide⟩ (fun c2 => ?_) (fun c2 => ?_)
    · rw [if_pos c2] at H
      refine j_sub (lv' := [(0, vr x0), (1, vi x1)]) [0, 1] rfl ?_
      exact tX5_init_112 _ hk47 x0 x1 h rx1 H
    · rw [if_neg c2] at H
      refine j_aload_n (i := 0) (pc' := 64) dX5_init_63 rfl rfl 0 rfl ?_
      obtain ⟨v3, e3, H⟩ := bs H
      refine j_getR (pc' := 67) dX5_init_64 rfl fl_X5_11 e3 (fun r3 => ?_)
      refine j_iload_n (i := 2) (pc' := 68) dX5_init_67 rfl rfl 2 rfl ?_
      refine j_bipush (pc' := 70) dX5_init_68 rfl (by decide +kernel) ?_
      refine j_imul (pc' := 71) dX5_init_70 rfl ?_
      refine j_iload_n (i := 1) (pc' := 72) dX5_init_71 rfl rfl 1 rfl ?_
      refine j_iadd (pc' := 73) dX5_init_72 rfl ?_
      refine j_iload_n (i := 2) (pc' := 74) dX5_init_73 rfl rfl 2 rfl ?_
      refine j_i2l (pc' := 75) dX5_init_74 rfl rx2 ?_
      refine j_aload_n (i := 0) (pc' := 76) dX5_init_75 rfl rfl 0 rfl ?_
      obtain ⟨v4, e4, H⟩ := bs H
      refine j_getR (pc' := 79) dX5_init_76 rfl fl_X5_11 e4 (fun r4 => ?_)
      refine j_iload_n (i := 2) (pc' := 80) dX5_init_79 rfl rfl 2 rfl ?_
      refine j_bipush (pc' := 82) dX5_init_80 rfl (by decide +kernel) ?_
      refine j_imul (pc' := 83) dX5_init_82 rfl ?_
      refine j_iload_n (i := 1) (pc' := 84) dX5_init_83 rfl rfl 1 rfl ?_
      refine j_iadd (pc' := 85) dX5_init_84 rfl ?_
      refine j_iconst (pc' := 86) dX5_init_85 rfl ?_
      refine j_isub (pc' := 87) dX5_init_86 rfl ?_
      obtain ⟨v5, e5, H⟩ := bs H
      refine j_lald (pc' := 88) dX5_init_87 rfl e5 (fun r5 => ?_)
      refine j_lmul (pc' := 89) dX5_init_88 rfl ?_
      refine j_aload_n (i := 0) (pc' := 90) dX5_init_89 rfl rfl 0 rfl ?_
      obtain ⟨v6, e6, H⟩ := bs H
      refine j_getR (pc' := 93) dX5_init_90 rfl fl_X5_11 e6 (fun r6 => ?_)
      refine j_iload_n (i := 2) (pc' := 94) dX5_init_93 rfl rfl 2 rfl ?_
      refine j_iconst (pc' := 95) dX5_init_94 rfl ?_
      refine j_iadd (pc' := 96) dX5_init_95 rfl ?_
      refine j_bipush (pc' := 98) dX5_init_96 rfl (by decide +kernel) ?_
      refine j_imul (pc' := 99) dX5_init_98 rfl ?_
      refine j_iload_n (i := 1) (pc' := 100) dX5_init_99 rfl rfl 1 rfl ?_
      refine j_iadd (pc' := 101) dX5_init_100 rfl ?_
      refine j_iconst (pc' := 102) dX5_init_101 rfl ?_
      refine j_isub (pc' := 103) dX5_init_102 rfl ?_
      obtain ⟨v7, e7, H⟩ := bs H
      refine j_lald (pc' := 104) dX5_init_103 rfl e7 (fun r7 => ?_)
      refine j_ladd (pc' := 105) dX5_init_104 rfl ?_
      obtain ⟨u8, e8, H⟩ := bs H
      have r8 := c64_R e8
      obtain ⟨h9, e9, H⟩ := bs H
      refine j_last (pc' := 106) dX5_init_105 rfl r8 e9 ?_
      obtain ⟨u10, e10, H⟩ := bs H
      have r10 := c32_R e10
      refine j_iinc (k0 := 2) (lv' := [(0, vr x0), (1, vi x1), (2, vi (x2 + 1))]) (pc' := 109) dX5_init_106 rfl rfl (by decide) [1, 2, 0] rfl ?_
      refine j_goto (tgt := 55) dX5_init_109 (by decide) ?_
      exact ih x0 x1 (x2 + 1) h9 rx1 r10 H
noncomputable def fX5_init_47 : Nat → Nat → Int → Hp → Option (Hp)
  | 0, _, _, _ => none
  | n + 1, x0, x1, h => if 13 ≤ x1 then (fX5_init_118 h) else (fX5_init_55 (fX5_init_47 n) FU x0 x1 0 h)
theorem tX5_init_47 {L : Nat} {xs : Nat → Int32} {l : Launch} {res : Hp} : ∀ (n : Nat) (x0 : Nat) (x1 : Int) (h : Hp), R32 x1 → fX5_init_47 n x0 x1 h = some res → J L xs l RX5 cX5_init 3 true 1 (QV res) 0 0 47 [(0, vr x0), (1, vi x1)] [] h := by
  intro n
  induction n with
  | zero => intro x0 x1 h rx1 H; cases H
  | succ n ih =>
    intro x0 x1 h rx1 H
    rw [fX5_init_47] at H
    refine j_iload_n (i := 1) (pc' := 48) dX5_init_47 rfl rfl 1 rfl ?_
    refine j_bipush (pc' := 50) dX5_init_48 rfl (by decide +kernel) ?_
    refine j_icmp_ge (tgt := 118) (pc' := 53) dX5_init_50 (by decide) rfl rx1 ⟨by decide, by decide⟩ (fun c1 => ?_) (fun c1 => ?_)
    · rw [if_pos c1] at H
      refine j_sub (lv' := []) [] rfl ?_
      exact tX5_init_118   h  H
    · rw [if_neg c1] at H
      refine j_iconst (pc' := 54) dX5_init_53 rfl ?_
      refine j_istore_n (i := 2) (lv' := [(0, vr x0), (1, vi x1), (2, vi 0)]) (pc' := 55) dX5_init_54 rfl rfl (by decide) [1, 2, 0] rfl ?_
      exact tX5_init_55 _ ih FU x0 x1 0 h rx1 ⟨by decide, by decide⟩ H
noncomputable def fX5_init_45 (x0 : Nat) (h : Hp) : Option (Hp) :=
  fX5_init_47 FU x0 1 h
theorem tX5_init_45 {L : Nat} {xs : Nat → Int32} {l : Launch} {res : Hp} (x0 : Nat) (h : Hp)  (H : fX5_init_45 x0 h = some res) : J L xs l RX5 cX5_init 3 true 1 (QV res) 0 0 45 [(0, vr x0)] [] h := by
  unfold fX5_init_45 at H
  refine j_iconst (pc' := 46) dX5_init_45 rfl ?_
  refine j_istore_n (i := 1) (lv' := [(0, vr x0), (1, vi 1)]) (pc' := 47) dX5_init_46 rfl rfl (by decide) [1, 0] rfl ?_
  exact tX5_init_47   FU x0 1 h ⟨by decide, by decide⟩ H
noncomputable def fX5_init_23 : Nat → Nat → Int → Hp → Option (Hp)
  | 0, _, _, _ => none
  | n + 1, x0, x1, h => if 13 ≤ x1 then (fX5_init_45 x0 h) else ((getR h 4 x0 0).bind fun v2 => (ast h 1 v2 (x1 * 13) 1).bind fun h3 => (c32 (x1 + 1)).bind fun _ => fX5_init_23 n x0 (x1 + 1) h3)
theorem tX5_init_23 {L : Nat} {xs : Nat → Int32} {l : Launch} {res : Hp} : ∀ (n : Nat) (x0 : Nat) (x1 : Int) (h : Hp), R32 x1 → fX5_init_23 n x0 x1 h = some res → J L xs l RX5 cX5_init 3 true 1 (QV res) 0 0 23 [(0, vr x0), (1, vi x1)] [] h := by
  intro n
  induction n with
  | zero => intro x0 x1 h rx1 H; cases H
  | succ n ih =>
    intro x0 x1 h rx1 H
    rw [fX5_init_23] at H
    refine j_iload_n (i := 1) (pc' := 24) dX5_init_23 rfl rfl 1 rfl ?_
    refine j_bipush (pc' := 26) dX5_init_24 rfl (by decide +kernel) ?_
    refine j_icmp_ge (tgt := 45) (pc' := 29) dX5_init_26 (by decide) rfl rx1 ⟨by decide, by decide⟩ (fun c1 => ?_) (fun c1 => ?_)
    · rw [if_pos c1] at H
      refine j_sub (lv' := [(0, vr x0)]) [0] rfl ?_
      exact tX5_init_45   x0 h  H
    · rw [if_neg c1] at H
      refine j_aload_n (i := 0) (pc' := 30) dX5_init_29 rfl rfl 0 rfl ?_
      obtain ⟨v2, e2, H⟩ := bs H
      refine j_getR (pc' := 33) dX5_init_30 rfl fl_X5_11 e2 (fun r2 => ?_)
      refine j_iload_n (i := 1) (pc' := 34) dX5_init_33 rfl rfl 1 rfl ?_
      refine j_bipush (pc' := 36) dX5_init_34 rfl (by decide +kernel) ?_
      refine j_imul (pc' := 37) dX5_init_36 rfl ?_
      refine j_lconst (z := 1) (pc' := 38) dX5_init_37 rfl rfl ?_
      obtain ⟨h3, e3, H⟩ := bs H
      refine j_last (pc' := 39) dX5_init_38 rfl ⟨by decide, by decide⟩ e3 ?_
      obtain ⟨u4, e4, H⟩ := bs H
      have r4 := c32_R e4
      refine j_iinc (k0 := 1) (lv' := [(0, vr x0), (1, vi (x1 + 1))]) (pc' := 42) dX5_init_39 rfl rfl (by decide) [1, 0] rfl ?_
      refine j_goto (tgt := 23) dX5_init_42 (by decide) ?_
      exact ih x0 (x1 + 1) h3 r4 H
noncomputable def fX5_init (a0 : Nat) (h : Hp) : Option (Hp) :=
  (cob h 4 a0).bind fun _ => (crf h a0).bind fun _ => (newO h (arr 1 169 (fun _ => 0))).bind fun p3 => (crf p3.2 p3.1).bind fun _ => (putV p3.2 4 a0 0 (vr p3.1)).bind fun h5 => (crf h5 a0).bind fun _ => (newO h5 (arr 1 13 (fun _ => 0))).bind fun p7 => (crf p7.2 p7.1).bind fun _ => (putV p7.2 4 a0 1 (vr p7.1)).bind fun h9 => fX5_init_23 FU a0 0 h9
theorem tX5_init {L : Nat} {xs : Nat → Int32} {l : Launch} {res : Hp} (a0 : Nat) (h : Hp)  (H : fX5_init a0 h = some res) : J L xs l RX5 cX5_init 3 true 1 (QV res) 2 182 0 (alv 0 [vr a0]) [] h := by
  unfold fX5_init at H
  show J L xs l RX5 cX5_init 3 true 1 (QV res) 2 182 0 [(0, vr a0)] [] h
  refine j_aload_n (i := 0) (pc' := 1) dX5_init_0 rfl rfl 0 rfl ?_
  obtain ⟨u1, e1, H⟩ := bs H
  refine j_objInit (pc' := 4) dX5_init_1 rfl ml_X5_3 oi_1 oi_2 (by decide) e1 (Nat.le_of_ble_eq_true rfl) ?_
  refine j_aload_n (i := 0) (pc' := 5) dX5_init_4 rfl rfl 0 rfl ?_
  refine j_sipush (pc' := 8) dX5_init_5 rfl (by decide +kernel) ?_
  obtain ⟨u2, e2, H⟩ := bs H
  obtain ⟨p3, e3, H⟩ := bs H
  refine j_newLp (N := 169) (rc := 1) (rs := 13) (pc' := 10) rfl (by decide) dX5_init_8 rfl ak_long ⟨(crf_R e2), trivial⟩ ⟨(crf_R e2), trivial⟩ e3 ?_
  obtain ⟨u4, e4, H⟩ := bs H
  obtain ⟨h5, e5, H⟩ := bs H
  refine j_putF (pc' := 13) dX5_init_10 rfl rfl fp_X5_11 tR (crf_R e4) e5 ?_
  refine j_aload_n (i := 0) (pc' := 14) dX5_init_13 rfl rfl 0 rfl ?_
  refine j_bipush (pc' := 16) dX5_init_14 rfl (by decide +kernel) ?_
  obtain ⟨u6, e6, H⟩ := bs H
  obtain ⟨p7, e7, H⟩ := bs H
  refine j_newLp (N := 13) (rc := 0) (rs := 0) (pc' := 18) rfl (by decide) dX5_init_16 rfl ak_long ⟨(crf_R e6), trivial⟩ ⟨(crf_R e6), trivial⟩ e7 ?_
  obtain ⟨u8, e8, H⟩ := bs H
  obtain ⟨h9, e9, H⟩ := bs H
  refine j_putF (pc' := 21) dX5_init_18 rfl rfl fp_X5_15 tR (crf_R e8) e9 ?_
  refine j_iconst (pc' := 22) dX5_init_21 rfl ?_
  refine j_istore_n (i := 1) (lv' := [(0, vr a0), (1, vi 0)]) (pc' := 23) dX5_init_22 rfl rfl (by decide) [1, 0] rfl ?_
  exact tX5_init_23   FU a0 0 h9 ⟨by decide, by decide⟩ H
-- X5_allOf
noncomputable def fX5_allOf (a0 : Nat) (a1 : Int) (h : Hp) : Option (Int × Hp) :=
  (getR h 4 a0 0).bind fun v1 => (ald h 1 v1 a1).bind fun v2 => some (v2, h)
theorem tX5_allOf {L : Nat} {xs : Nat → Int32} {l : Launch} {res : Int × Hp} (a0 : Nat) (a1 : Int) (h : Hp) (ra1 : R32 a1) (H : fX5_allOf a0 a1 h = some res) : J L xs l RX5 cX5_allOf 2 false 1 (QL res) 0 0 0 (alv 0 [vr a0, vi a1]) [] h := by
  unfold fX5_allOf at H
  show J L xs l RX5 cX5_allOf 2 false 1 (QL res) 0 0 0 [(0, vr a0), (1, vi a1)] [] h
  refine j_aload_n (i := 0) (pc' := 1) dX5_allOf_0 rfl rfl 0 rfl ?_
  obtain ⟨v1, e1, H⟩ := bs H
  refine j_getR (pc' := 4) dX5_allOf_1 rfl fl_X5_11 e1 (fun r1 => ?_)
  refine j_iload_n (i := 1) (pc' := 5) dX5_allOf_4 rfl rfl 1 rfl ?_
  obtain ⟨v2, e2, H⟩ := bs H
  refine j_lald (pc' := 6) dX5_allOf_5 rfl e2 (fun r2 => ?_)
  obtain rfl := Option.some.inj H
  exact j_lret dX5_allOf_6 r2 ⟨rfl, rfl⟩
-- J7_fill_d0a16
noncomputable def fJ7_fill_d0a16_22  (h : Hp) : Option (Hp) :=
  some h
theorem tJ7_fill_d0a16_22 {L : Nat} {xs : Nat → Int32} {l : Launch} {res : Hp}  (h : Hp)  (H : fJ7_fill_d0a16_22  h = some res) : J L xs l RJ7 cJ7_fill_d0a16 5 false 1 (QV res) 0 0 22 [] [] h := by
  unfold fJ7_fill_d0a16_22 at H
  obtain rfl := Option.some.inj H
  exact j_vret dJ7_fill_d0a16_22 ⟨rfl, rfl⟩
noncomputable def fJ7_fill_d0a16_6 : Nat → Nat → Int → Int → Int → Hp → Option (Hp)
  | 0, _, _, _, _, _ => none
  | n + 1, x0, x1, x3, x4, h => if x4 ≤ x3 then (fJ7_fill_d0a16_22 h) else ((ast h 1 x0 x3 x1).bind fun h2 => (c32 (x3 + 1)).bind fun _ => fJ7_fill_d0a16_6 n x0 x1 (x3 + 1) x4 h2)
theorem tJ7_fill_d0a16_6 {L : Nat} {xs : Nat → Int32} {l : Launch} {res : Hp} : ∀ (n : Nat) (x0 : Nat) (x1 : Int) (x3 : Int) (x4 : Int) (h : Hp), R64 x1 → R32 x3 → R32 x4 → fJ7_fill_d0a16_6 n x0 x1 x3 x4 h = some res → J L xs l RJ7 cJ7_fill_d0a16 5 false 1 (QV res) 0 0 6 [(0, vr x0), (1, vl x1), (3, vi x3), (4, vi x4)] [] h := by
  intro n
  induction n with
  | zero => intro x0 x1 x3 x4 h rx1 rx3 rx4 H; cases H
  | succ n ih =>
    intro x0 x1 x3 x4 h rx1 rx3 rx4 H
    rw [fJ7_fill_d0a16_6] at H
    refine j_iload_n (i := 3) (pc' := 7) dJ7_fill_d0a16_6 rfl rfl 2 rfl ?_
    refine j_iload (pc' := 9) dJ7_fill_d0a16_7 rfl 3 rfl ?_
    refine j_icmp_ge (tgt := 22) (pc' := 12) dJ7_fill_d0a16_9 (by decide) rfl rx3 rx4 (fun c1 => ?_) (fun c1 => ?_)
    · rw [if_pos c1] at H
      refine j_sub (lv' := []) [] rfl ?_
      exact tJ7_fill_d0a16_22   h  H
    · rw [if_neg c1] at H
      refine j_aload_n (i := 0) (pc' := 13) dJ7_fill_d0a16_12 rfl rfl 0 rfl ?_
      refine j_iload_n (i := 3) (pc' := 14) dJ7_fill_d0a16_13 rfl rfl 2 rfl ?_
      refine j_lload_n (i := 1) (pc' := 15) dJ7_fill_d0a16_14 rfl rfl 1 rfl ?_
      obtain ⟨h2, e2, H⟩ := bs H
      refine j_last (pc' := 16) dJ7_fill_d0a16_15 rfl rx1 e2 ?_
      obtain ⟨u3, e3, H⟩ := bs H
      have r3 := c32_R e3
      refine j_iinc (k0 := 2) (lv' := [(0, vr x0), (1, vl x1), (3, vi (x3 + 1)), (4, vi x4)]) (pc' := 19) dJ7_fill_d0a16_16 rfl rfl (by decide) [1, 2, 0, 3] rfl ?_
      refine j_goto (tgt := 6) dJ7_fill_d0a16_19 (by decide) ?_
      exact ih x0 x1 (x3 + 1) x4 h2 rx1 r3 rx4 H
noncomputable def fJ7_fill_d0a16 (a0 : Nat) (a1 : Int) (h : Hp) : Option (Hp) :=
  (aln h 1 a0).bind fun v1 => fJ7_fill_d0a16_6 FU a0 a1 0 v1 h
theorem tJ7_fill_d0a16 {L : Nat} {xs : Nat → Int32} {l : Launch} {res : Hp} (a0 : Nat) (a1 : Int) (h : Hp) (ra1 : R64 a1) (H : fJ7_fill_d0a16 a0 a1 h = some res) : J L xs l RJ7 cJ7_fill_d0a16 5 false 1 (QV res) 0 0 0 (alv 0 [vr a0, vl a1]) [] h := by
  unfold fJ7_fill_d0a16 at H
  show J L xs l RJ7 cJ7_fill_d0a16 5 false 1 (QV res) 0 0 0 [(0, vr a0), (1, vl a1)] [] h
  refine j_iconst (pc' := 1) dJ7_fill_d0a16_0 rfl ?_
  refine j_istore_n (i := 3) (lv' := [(0, vr a0), (1, vl a1), (3, vi 0)]) (pc' := 2) dJ7_fill_d0a16_1 rfl rfl (by decide) [1, 2, 0] rfl ?_
  refine j_aload_n (i := 0) (pc' := 3) dJ7_fill_d0a16_2 rfl rfl 0 rfl ?_
  obtain ⟨v1, e1, H⟩ := bs H
  refine j_alen (kd := 1) (pc' := 4) dJ7_fill_d0a16_3 rfl e1 (fun r1 => ?_)
  refine j_istore (lv' := [(0, vr a0), (1, vl a1), (3, vi 0), (4, vi v1)]) (pc' := 6) dJ7_fill_d0a16_4 rfl (by decide) [1, 2, 3, 0] rfl ?_
  exact tJ7_fill_d0a16_6   FU a0 a1 0 v1 h ra1 ⟨by decide, by decide⟩ r1 H
-- X5_withHeaps
noncomputable def fX5_withHeaps_78 (x0 : Nat) (x2 : Int) (h : Hp) : Option (Int × Hp) :=
  (getR h 4 x0 1).bind fun v1 => (ald h 1 v1 x2).bind fun v2 => some (v2, h)
theorem tX5_withHeaps_78 {L : Nat} {xs : Nat → Int32} {l : Launch} {res : Int × Hp} (x0 : Nat) (x2 : Int) (h : Hp) (rx2 : R32 x2) (H : fX5_withHeaps_78 x0 x2 h = some res) : J L xs l RX5 cX5_withHeaps 5 false 2 (QL res) 0 0 78 [(0, vr x0), (2, vi x2)] [] h := by
  unfold fX5_withHeaps_78 at H
  refine j_aload_n (i := 0) (pc' := 79) dX5_withHeaps_78 rfl rfl 0 rfl ?_
  obtain ⟨v1, e1, H⟩ := bs H
  refine j_getR (pc' := 82) dX5_withHeaps_79 rfl fl_X5_15 e1 (fun r1 => ?_)
  refine j_iload_n (i := 2) (pc' := 83) dX5_withHeaps_82 rfl rfl 1 rfl ?_
  obtain ⟨v2, e2, H⟩ := bs H
  refine j_lald (pc' := 84) dX5_withHeaps_83 rfl e2 (fun r2 => ?_)
  obtain rfl := Option.some.inj H
  exact j_lret dX5_withHeaps_84 r2 ⟨rfl, rfl⟩
noncomputable def fX5_withHeaps_65 (k17 : Nat → Int → Int → Int → Hp → Option (Int × Hp)) (x0 : Nat) (x1 : Int) (x2 : Int) (x3 : Int) (h : Hp) : Option (Int × Hp) :=
  (getR h 4 x0 1).bind fun v1 => (ast h 1 v1 0 0).bind fun h2 => (c32 (x3 + 1)).bind fun _ => k17 x0 x1 x2 (x3 + 1) h2
theorem tX5_withHeaps_65 {L : Nat} {xs : Nat → Int32} {l : Launch} {res : Int × Hp} (k17 : Nat → Int → Int → Int → Hp → Option (Int × Hp)) (hk17 : ∀ (x0 : Nat) (x1 : Int) (x2 : Int) (x3 : Int) (h : Hp), R32 x1 → R32 x2 → R32 x3 → k17 x0 x1 x2 x3 h = some res → J L xs l RX5 cX5_withHeaps 5 false 2 (QL res) 0 0 17 [(0, vr x0), (1, vi x1), (2, vi x2), (3, vi x3)] [] h) (x0 : Nat) (x1 : Int) (x2 : Int) (x3 : Int) (h : Hp) (rx1 : R32 x1) (rx2 : R32 x2) (rx3 : R32 x3) (H : fX5_withHeaps_65 k17 x0 x1 x2 x3 h = some res) : J L xs l RX5 cX5_withHeaps 5 false 2 (QL res) 0 0 65 [(0, vr x0), (1, vi x1), (2, vi x2), (3, vi x3)] [] h := by
  unfold fX5_withHeaps_65 at H
  refine j_aload_n (i := 0) (pc' := 66) dX5_withHeaps_65 rfl rfl 0 rfl ?_
  obtain ⟨v1, e1, H⟩ := bs H
  refine j_getR (pc' := 69) dX5_withHeaps_66 rfl fl_X5_15 e1 (fun r1 => ?_)
  refine j_iconst (pc' := 70) dX5_withHeaps_69 rfl ?_
  refine j_lconst (z := 0) (pc' := 71) dX5_withHeaps_70 rfl rfl ?_
  obtain ⟨h2, e2, H⟩ := bs H
  refine j_last (pc' := 72) dX5_withHeaps_71 rfl ⟨by decide, by decide⟩ e2 ?_
  obtain ⟨u3, e3, H⟩ := bs H
  have r3 := c32_R e3
  refine j_iinc (k0 := 3) (lv' := [(0, vr x0), (1, vi x1), (2, vi x2), (3, vi (x3 + 1))]) (pc' := 75) dX5_withHeaps_72 rfl rfl (by decide) [1, 2, 3, 0] rfl ?_
  refine j_goto (tgt := 17) dX5_withHeaps_75 (by decide) ?_
  exact hk17 x0 x1 x2 (x3 + 1) h2 rx1 rx2 r3 H
noncomputable def fX5_withHeaps_25 (k17 : Nat → Int → Int → Int → Hp → Option (Int × Hp)) : Nat → Nat → Int → Int → Int → Int → Hp → Option (Int × Hp)
  | 0, _, _, _, _, _, _ => none
  | n + 1, x0, x1, x2, x3, x4, h => if x4 < 1 then (fX5_withHeaps_65 k17 x0 x1 x2 x3 h) else ((getR h 4 x0 1).bind fun v2 => (getR h 4 x0 1).bind fun v3 => (ald h 1 v3 x4).bind fun v4 => (getR h 4 x0 1).bind fun v5 => (ald h 1 v5 (x4 - 1)).bind fun v6 => (c64 ((x4 * v4) + v6)).bind fun _ => (ast h 1 v2 x4 ((x4 * v4) + v6)).bind fun h8 => (c32 (x4 + (-1))).bind fun _ => fX5_withHeaps_25 k17 n x0 x1 x2 x3 (x4 + (-1)) h8)
theorem tX5_withHeaps_25 {L : Nat} {xs : Nat → Int32} {l : Launch} {res : Int × Hp} (k17 : Nat → Int → Int → Int → Hp → Option (Int × Hp)) (hk17 : ∀ (x0 : Nat) (x1 : Int) (x2 : Int) (x3 : Int) (h : Hp), R32 x1 → R32 x2 → R32 x3 → k17 x0 x1 x2 x3 h = some res → J L xs l RX5 cX5_withHeaps 5 false 2 (QL res) 0 0 17 [(0, vr x0), (1, vi x1), (2, vi x2), (3, vi x3)] [] h) : ∀ (n : Nat) (x0 : Nat) (x1 : Int) (x2 : Int) (x3 : Int) (x4 : Int) (h : Hp), R32 x1 → R32 x2 → R32 x3 → R32 x4 → fX5_withHeaps_25 k17 n x0 x1 x2 x3 x4 h = some res → J L xs l RX5 cX5_withHeaps 5 false 2 (QL res) 0 0 25 [(0, vr x0), (1, vi x1), (2, vi x2), (3, vi x3), (4, vi x4)] [] h := by
  intro n
  induction n with
  | zero => intro x0 x1 x2 x3 x4 h rx1 rx2 rx3 rx4 H; cases H
  | succ n ih =>
    intro x0 x1 x2 x3 x4 h rx1 rx2 rx3 rx4 H
    rw [fX5_withHeaps_25] at H
    refine j_iload (pc' := 27) dX5_withHeaps_25 rfl 4 rfl ?_
    refine j_iconst (pc' := 28) dX5_withHeaps_27 rfl ?_
    refine j_icmp_lt (tgt := 65) (pc' := 31) dX5_withHeaps_28 (by decide) rfl rx4 ⟨by decide, by decide⟩ (fun c1 => ?_) (fun c1 => ?_)
    · rw [if_pos c1] at H
      refine j_sub (lv' := [(0, vr x0), (1, vi x1), (2, vi x2), (3, vi x3)]) [0, 1, 2, 3] rfl ?_
      exact tX5_withHeaps_65 _ hk17 x0 x1 x2 x3 h rx1 rx2 rx3 H
    · rw [if_neg c1] at H
      refine j_aload_n (i := 0) (pc' := 32) dX5_withHeaps_31 rfl rfl 0 rfl ?_
      obtain ⟨v2, e2, H⟩ := bs H
      refine j_getR (pc' := 35) dX5_withHeaps_32 rfl fl_X5_15 e2 (fun r2 => ?_)
      refine j_iload (pc' := 37) dX5_withHeaps_35 rfl 4 rfl ?_
      refine j_iload (pc' := 39) dX5_withHeaps_37 rfl 4 rfl ?_
      refine j_i2l (pc' := 40) dX5_withHeaps_39 rfl rx4 ?_
      refine j_aload_n (i := 0) (pc' := 41) dX5_withHeaps_40 rfl rfl 0 rfl ?_
      obtain ⟨v3, e3, H⟩ := bs H
      refine j_getR (pc' := 44) dX5_withHeaps_41 rfl fl_X5_15 e3 (fun r3 => ?_)
      refine j_iload (pc' := 46) dX5_withHeaps_44 rfl 4 rfl ?_
      obtain ⟨v4, e4, H⟩ := bs H
      refine j_lald (pc' := 47) dX5_withHeaps_46 rfl e4 (fun r4 => ?_)
      refine j_lmul (pc' := 48) dX5_withHeaps_47 rfl ?_
      refine j_aload_n (i := 0) (pc' := 49) dX5_withHeaps_48 rfl rfl 0 rfl ?_
      obtain ⟨v5, e5, H⟩ := bs H
      refine j_getR (pc' := 52) dX5_withHeaps_49 rfl fl_X5_15 e5 (fun r5 => ?_)
      refine j_iload (pc' := 54) dX5_withHeaps_52 rfl 4 rfl ?_
      refine j_iconst (pc' := 55) dX5_withHeaps_54 rfl ?_
      refine j_isub (pc' := 56) dX5_withHeaps_55 rfl ?_
      obtain ⟨v6, e6, H⟩ := bs H
      refine j_lald (pc' := 57) dX5_withHeaps_56 rfl e6 (fun r6 => ?_)
      refine j_ladd (pc' := 58) dX5_withHeaps_57 rfl ?_
      obtain ⟨u7, e7, H⟩ := bs H
      have r7 := c64_R e7
      obtain ⟨h8, e8, H⟩ := bs H
      refine j_last (pc' := 59) dX5_withHeaps_58 rfl r7 e8 ?_
      obtain ⟨u9, e9, H⟩ := bs H
      have r9 := c32_R e9
      refine j_iinc (k0 := 4) (lv' := [(0, vr x0), (1, vi x1), (2, vi x2), (3, vi x3), (4, vi (x4 + (-1)))]) (pc' := 62) dX5_withHeaps_59 rfl rfl (by decide) [1, 2, 3, 4, 0] rfl ?_
      refine j_goto (tgt := 25) dX5_withHeaps_62 (by decide) ?_
      exact ih x0 x1 x2 x3 (x4 + (-1)) h8 rx1 rx2 rx3 r9 H
noncomputable def fX5_withHeaps_17 : Nat → Nat → Int → Int → Int → Hp → Option (Int × Hp)
  | 0, _, _, _, _, _ => none
  | n + 1, x0, x1, x2, x3, h => if x1 < x3 then (fX5_withHeaps_78 x0 x2 h) else (fX5_withHeaps_25 (fX5_withHeaps_17 n) FU x0 x1 x2 x3 x3 h)
theorem tX5_withHeaps_17 {L : Nat} {xs : Nat → Int32} {l : Launch} {res : Int × Hp} : ∀ (n : Nat) (x0 : Nat) (x1 : Int) (x2 : Int) (x3 : Int) (h : Hp), R32 x1 → R32 x2 → R32 x3 → fX5_withHeaps_17 n x0 x1 x2 x3 h = some res → J L xs l RX5 cX5_withHeaps 5 false 2 (QL res) 0 0 17 [(0, vr x0), (1, vi x1), (2, vi x2), (3, vi x3)] [] h := by
  intro n
  induction n with
  | zero => intro x0 x1 x2 x3 h rx1 rx2 rx3 H; cases H
  | succ n ih =>
    intro x0 x1 x2 x3 h rx1 rx2 rx3 H
    rw [fX5_withHeaps_17] at H
    refine j_iload_n (i := 3) (pc' := 18) dX5_withHeaps_17 rfl rfl 3 rfl ?_
    refine j_iload_n (i := 1) (pc' := 19) dX5_withHeaps_18 rfl rfl 1 rfl ?_
    refine j_icmp_gt (tgt := 78) (pc' := 22) dX5_withHeaps_19 (by decide) rfl rx3 rx1 (fun c1 => ?_) (fun c1 => ?_)
    · rw [if_pos c1] at H
      refine j_sub (lv' := [(0, vr x0), (2, vi x2)]) [0, 2] rfl ?_
      exact tX5_withHeaps_78   x0 x2 h rx2 H
    · rw [if_neg c1] at H
      refine j_iload_n (i := 3) (pc' := 23) dX5_withHeaps_22 rfl rfl 3 rfl ?_
      refine j_istore (lv' := [(0, vr x0), (1, vi x1), (2, vi x2), (3, vi x3), (4, vi x3)]) (pc' := 25) dX5_withHeaps_23 rfl (by decide) [1, 2, 3, 4, 0] rfl ?_
      exact tX5_withHeaps_25 _ ih FU x0 x1 x2 x3 x3 h rx1 rx2 rx3 rx3 H
noncomputable def fX5_withHeaps (a0 : Nat) (a1 : Int) (a2 : Int) (h : Hp) : Option (Int × Hp) :=
  (getR h 4 a0 1).bind fun v1 => (fJ7_fill_d0a16 v1 0 h).bind fun h2 => (getR h2 4 a0 1).bind fun v3 => (ast h2 1 v3 0 1).bind fun h4 => fX5_withHeaps_17 FU a0 a1 a2 1 h4
theorem tX5_withHeaps {L : Nat} {xs : Nat → Int32} {l : Launch} {res : Int × Hp} (a0 : Nat) (a1 : Int) (a2 : Int) (h : Hp) (ra1 : R32 a1) (ra2 : R32 a2) (H : fX5_withHeaps a0 a1 a2 h = some res) : J L xs l RX5 cX5_withHeaps 5 false 2 (QL res) 0 0 0 (alv 0 [vr a0, vi a1, vi a2]) [] h := by
  unfold fX5_withHeaps at H
  show J L xs l RX5 cX5_withHeaps 5 false 2 (QL res) 0 0 0 [(0, vr a0), (1, vi a1), (2, vi a2)] [] h
  refine j_aload_n (i := 0) (pc' := 1) dX5_withHeaps_0 rfl rfl 0 rfl ?_
  obtain ⟨v1, e1, H⟩ := bs H
  refine j_getR (pc' := 4) dX5_withHeaps_1 rfl fl_X5_15 e1 (fun r1 => ?_)
  refine j_lconst (z := 0) (pc' := 5) dX5_withHeaps_4 rfl rfl ?_
  obtain ⟨h2, e2, H⟩ := bs H
  refine j_cSv (y := yJ7_fill_d0a16) (dY := 1) (vs := [vr v1, vl 0]) (st := []) (pc' := 8) dX5_withHeaps_5 rfl ymJ7_fill_d0a16 ysJ7_fill_d0a16 ml_X5_18 (by decide) rfl (Nat.le_of_ble_eq_true rfl) (Nat.le_of_ble_eq_true rfl) (tJ7_fill_d0a16 v1 0 h ⟨by decide, by decide⟩ e2) (fun z2 => ?_)
  refine j_aload_n (i := 0) (pc' := 9) dX5_withHeaps_8 rfl rfl 0 rfl ?_
  obtain ⟨v3, e3, H⟩ := bs H
  refine j_getR (pc' := 12) dX5_withHeaps_9 rfl fl_X5_15 e3 (fun r3 => ?_)
  refine j_iconst (pc' := 13) dX5_withHeaps_12 rfl ?_
  refine j_lconst (z := 1) (pc' := 14) dX5_withHeaps_13 rfl rfl ?_
  obtain ⟨h4, e4, H⟩ := bs H
  refine j_last (pc' := 15) dX5_withHeaps_14 rfl ⟨by decide, by decide⟩ e4 ?_
  refine j_iconst (pc' := 16) dX5_withHeaps_15 rfl ?_
  refine j_istore_n (i := 3) (lv' := [(0, vr a0), (1, vi a1), (2, vi a2), (3, vi 1)]) (pc' := 17) dX5_withHeaps_16 rfl rfl (by decide) [1, 2, 3, 0] rfl ?_
  exact tX5_withHeaps_17   FU a0 a1 a2 1 h4 ra1 ra2 ⟨by decide, by decide⟩ H
-- X5_rankOf
noncomputable def fX5_rankOf_70 (x2 : Int) (h : Hp) : Option (Int × Hp) :=
  some (x2, h)
theorem tX5_rankOf_70 {L : Nat} {xs : Nat → Int32} {l : Launch} {res : Int × Hp} (x2 : Int) (h : Hp) (rx2 : R64 x2) (H : fX5_rankOf_70 x2 h = some res) : J L xs l RX5 cX5_rankOf 7 false 1 (QL res) 0 0 70 [(2, vl x2)] [] h := by
  unfold fX5_rankOf_70 at H
  refine j_lload_n (i := 2) (pc' := 71) dX5_rankOf_70 rfl rfl 0 rfl ?_
  obtain rfl := Option.some.inj H
  exact j_lret dX5_rankOf_71 rx2 ⟨rfl, rfl⟩
noncomputable def fX5_rankOf_8 : Nat → Nat → Nat → Int → Int → Int → Hp → Option (Int × Hp)
  | 0, _, _, _, _, _, _ => none
  | n + 1, x0, x1, x2, x4, x5, h => (getI h 5 x1 0).bind fun v1 => if v1 ≤ x5 then (fX5_rankOf_70 x2 h) else ((getR h 5 x1 2).bind fun v3 => (ald h 0 v3 x5).bind fun v4 => (getR h 4 x0 0).bind fun v5 => (getI h 5 x1 0).bind fun v6 => (ald h 1 v5 ((((x4 * 13) + v6) - 1) - x5)).bind fun v7 => (c64 (x2 + (v4 * v7))).bind fun _ => (c32 (v4 + 1)).bind fun _ => (c32 (x5 + 1)).bind fun _ => fX5_rankOf_8 n x0 x1 (x2 + (v4 * v7)) (max x4 (v4 + 1)) (x5 + 1) h)
theorem tX5_rankOf_8 {L : Nat} {xs : Nat → Int32} {l : Launch} {res : Int × Hp} : ∀ (n : Nat) (x0 : Nat) (x1 : Nat) (x2 : Int) (x4 : Int) (x5 : Int) (h : Hp), R64 x2 → R32 x4 → R32 x5 → fX5_rankOf_8 n x0 x1 x2 x4 x5 h = some res → J L xs l RX5 cX5_rankOf 7 false 1 (QL res) 0 0 8 [(0, vr x0), (1, vr x1), (2, vl x2), (4, vi x4), (5, vi x5)] [] h := by
  intro n
  induction n with
  | zero => intro x0 x1 x2 x4 x5 h rx2 rx4 rx5 H; cases H
  | succ n ih =>
    intro x0 x1 x2 x4 x5 h rx2 rx4 rx5 H
    rw [fX5_rankOf_8] at H
    refine j_iload (pc' := 10) dX5_rankOf_8 rfl 4 rfl ?_
    refine j_aload_n (i := 1) (pc' := 11) dX5_rankOf_10 rfl rfl 1 rfl ?_
    obtain ⟨v1, e1, H⟩ := bs H
    refine j_getI (pc' := 14) dX5_rankOf_11 rfl fl_X5_24 e1 (fun r1 => ?_)
    refine j_icmp_ge (tgt := 70) (pc' := 17) dX5_rankOf_14 (by decide) rfl rx5 r1 (fun c2 => ?_) (fun c2 => ?_)
    · rw [if_pos c2] at H
      refine j_sub (lv' := [(2, vl x2)]) [2] rfl ?_
      exact tX5_rankOf_70   x2 h rx2 H
    · rw [if_neg c2] at H
      refine j_aload_n (i := 1) (pc' := 18) dX5_rankOf_17 rfl rfl 1 rfl ?_
      obtain ⟨v3, e3, H⟩ := bs H
      refine j_getR (pc' := 21) dX5_rankOf_18 rfl fl_X5_30 e3 (fun r3 => ?_)
      refine j_iload (pc' := 23) dX5_rankOf_21 rfl 4 rfl ?_
      obtain ⟨v4, e4, H⟩ := bs H
      refine j_iald (pc' := 24) dX5_rankOf_23 rfl e4 (fun r4 => ?_)
      refine j_istore (lv' := [(0, vr x0), (1, vr x1), (2, vl x2), (4, vi x4), (5, vi x5), (6, vi v4)]) (pc' := 26) dX5_rankOf_24 rfl (by decide) [1, 2, 3, 4, 5, 0] rfl ?_
      refine j_lload_n (i := 2) (pc' := 27) dX5_rankOf_26 rfl rfl 2 rfl ?_
      refine j_iload (pc' := 29) dX5_rankOf_27 rfl 5 rfl ?_
      refine j_i2l (pc' := 30) dX5_rankOf_29 rfl r4 ?_
      refine j_aload_n (i := 0) (pc' := 31) dX5_rankOf_30 rfl rfl 0 rfl ?_
      obtain ⟨v5, e5, H⟩ := bs H
      refine j_getR (pc' := 34) dX5_rankOf_31 rfl fl_X5_11 e5 (fun r5 => ?_)
      refine j_iload (pc' := 36) dX5_rankOf_34 rfl 3 rfl ?_
      refine j_bipush (pc' := 38) dX5_rankOf_36 rfl (by decide +kernel) ?_
      refine j_imul (pc' := 39) dX5_rankOf_38 rfl ?_
      refine j_aload_n (i := 1) (pc' := 40) dX5_rankOf_39 rfl rfl 1 rfl ?_
      obtain ⟨v6, e6, H⟩ := bs H
      refine j_getI (pc' := 43) dX5_rankOf_40 rfl fl_X5_24 e6 (fun r6 => ?_)
      refine j_iadd (pc' := 44) dX5_rankOf_43 rfl ?_
      refine j_iconst (pc' := 45) dX5_rankOf_44 rfl ?_
      refine j_isub (pc' := 46) dX5_rankOf_45 rfl ?_
      refine j_iload (pc' := 48) dX5_rankOf_46 rfl 4 rfl ?_
      refine j_isub (pc' := 49) dX5_rankOf_48 rfl ?_
      obtain ⟨v7, e7, H⟩ := bs H
      refine j_lald (pc' := 50) dX5_rankOf_49 rfl e7 (fun r7 => ?_)
      refine j_lmul (pc' := 51) dX5_rankOf_50 rfl ?_
      refine j_ladd (pc' := 52) dX5_rankOf_51 rfl ?_
      obtain ⟨u8, e8, H⟩ := bs H
      have r8 := c64_R e8
      refine j_lstore_n (i := 2) (lv' := [(0, vr x0), (1, vr x1), (2, vl (x2 + (v4 * v7))), (4, vi x4), (5, vi x5), (6, vi v4)]) (pc' := 53) dX5_rankOf_52 rfl rfl (by decide) [1, 2, 0, 3, 4, 5] rfl ?_
      refine j_iload (pc' := 55) dX5_rankOf_53 rfl 3 rfl ?_
      refine j_iload (pc' := 57) dX5_rankOf_55 rfl 5 rfl ?_
      refine j_iconst (pc' := 58) dX5_rankOf_57 rfl ?_
      refine j_iadd (pc' := 59) dX5_rankOf_58 rfl ?_
      obtain ⟨u9, e9, H⟩ := bs H
      have r9 := c32_R e9
      refine j_mmax (pc' := 62) dX5_rankOf_59 rfl ml_X5_34 (by decide) (Nat.le_of_ble_eq_true rfl) rx4 r9 ?_
      refine j_istore (lv' := [(0, vr x0), (1, vr x1), (2, vl (x2 + (v4 * v7))), (4, vi (max x4 (v4 + 1))), (5, vi x5), (6, vi v4)]) (pc' := 64) dX5_rankOf_62 rfl (by decide) [1, 2, 3, 0, 4, 5] rfl ?_
      obtain ⟨u10, e10, H⟩ := bs H
      have r10 := c32_R e10
      refine j_iinc (k0 := 4) (lv' := [(0, vr x0), (1, vr x1), (2, vl (x2 + (v4 * v7))), (4, vi (max x4 (v4 + 1))), (5, vi (x5 + 1)), (6, vi v4)]) (pc' := 67) dX5_rankOf_64 rfl rfl (by decide) [1, 2, 3, 4, 0, 5] rfl ?_
      refine j_goto (tgt := 8) dX5_rankOf_67 (by decide) ?_
      refine j_sub (lv' := [(0, vr x0), (1, vr x1), (2, vl (x2 + (v4 * v7))), (4, vi (max x4 (v4 + 1))), (5, vi (x5 + 1))]) [0, 1, 2, 3, 4] rfl ?_
      exact ih x0 x1 (x2 + (v4 * v7)) (max x4 (v4 + 1)) (x5 + 1) h r8 (R32_max rx4 r9) r10 H
noncomputable def fX5_rankOf (a0 : Nat) (a1 : Nat) (h : Hp) : Option (Int × Hp) :=
  fX5_rankOf_8 FU a0 a1 0 0 0 h
theorem tX5_rankOf {L : Nat} {xs : Nat → Int32} {l : Launch} {res : Int × Hp} (a0 : Nat) (a1 : Nat) (h : Hp)  (H : fX5_rankOf a0 a1 h = some res) : J L xs l RX5 cX5_rankOf 7 false 1 (QL res) 0 0 0 (alv 0 [vr a0, vr a1]) [] h := by
  unfold fX5_rankOf at H
  show J L xs l RX5 cX5_rankOf 7 false 1 (QL res) 0 0 0 [(0, vr a0), (1, vr a1)] [] h
  refine j_lconst (z := 0) (pc' := 1) dX5_rankOf_0 rfl rfl ?_
  refine j_lstore_n (i := 2) (lv' := [(0, vr a0), (1, vr a1), (2, vl 0)]) (pc' := 2) dX5_rankOf_1 rfl rfl (by decide) [1, 2, 0] rfl ?_
  refine j_iconst (pc' := 3) dX5_rankOf_2 rfl ?_
  refine j_istore (lv' := [(0, vr a0), (1, vr a1), (2, vl 0), (4, vi 0)]) (pc' := 5) dX5_rankOf_3 rfl (by decide) [1, 2, 3, 0] rfl ?_
  refine j_iconst (pc' := 6) dX5_rankOf_5 rfl ?_
  refine j_istore (lv' := [(0, vr a0), (1, vr a1), (2, vl 0), (4, vi 0), (5, vi 0)]) (pc' := 8) dX5_rankOf_6 rfl (by decide) [1, 2, 3, 4, 0] rfl ?_
  exact tX5_rankOf_8   FU a0 a1 0 0 0 h ⟨by decide, by decide⟩ ⟨by decide, by decide⟩ ⟨by decide, by decide⟩ H
-- X5_unrank
noncomputable def fX5_unrank_97 (x3 : Nat) (x6 : Int) (h : Hp) : Option (Hp) :=
  (putV h 5 x3 1 (vi x6)).bind fun h1 => some h1
theorem tX5_unrank_97 {L : Nat} {xs : Nat → Int32} {l : Launch} {res : Hp} (x3 : Nat) (x6 : Int) (h : Hp) (rx6 : R32 x6) (H : fX5_unrank_97 x3 x6 h = some res) : J L xs l RX5 cX5_unrank 11 false 1 (QV res) 0 0 97 [(3, vr x3), (6, vi x6)] [] h := by
  unfold fX5_unrank_97 at H
  refine j_aload_n (i := 3) (pc' := 98) dX5_unrank_97 rfl rfl 0 rfl ?_
  refine j_iload (pc' := 100) dX5_unrank_98 rfl 1 rfl ?_
  obtain ⟨h1, e1, H⟩ := bs H
  refine j_putV (pc' := 103) dX5_unrank_100 rfl fp_X5_40 tI rx6 e1 ?_
  obtain rfl := Option.some.inj H
  exact j_vret dX5_unrank_103 ⟨rfl, rfl⟩
noncomputable def fX5_unrank_71 (k9 : Nat → Nat → Int → Int → Int → Hp → Option (Hp)) (x0 : Nat) (x3 : Nat) (x4 : Int) (x6 : Int) (x7 : Int) (x10 : Int) (h : Hp) : Option (Hp) :=
  (getR h 5 x3 2).bind fun v1 => (ast h 0 v1 x7 x10).bind fun h2 => (c32 (x10 + 1)).bind fun _ => (c32 (x7 + 1)).bind fun _ => k9 x0 x3 x4 (max x6 (x10 + 1)) (x7 + 1) h2
theorem tX5_unrank_71 {L : Nat} {xs : Nat → Int32} {l : Launch} {res : Hp} (k9 : Nat → Nat → Int → Int → Int → Hp → Option (Hp)) (hk9 : ∀ (x0 : Nat) (x3 : Nat) (x4 : Int) (x6 : Int) (x7 : Int) (h : Hp), R64 x4 → R32 x6 → R32 x7 → k9 x0 x3 x4 x6 x7 h = some res → J L xs l RX5 cX5_unrank 11 false 1 (QV res) 0 0 9 [(0, vr x0), (3, vr x3), (4, vl x4), (6, vi x6), (7, vi x7)] [] h) (x0 : Nat) (x3 : Nat) (x4 : Int) (x6 : Int) (x7 : Int) (x10 : Int) (h : Hp) (rx4 : R64 x4) (rx6 : R32 x6) (rx7 : R32 x7) (rx10 : R32 x10) (H : fX5_unrank_71 k9 x0 x3 x4 x6 x7 x10 h = some res) : J L xs l RX5 cX5_unrank 11 false 1 (QV res) 0 0 71 [(0, vr x0), (3, vr x3), (4, vl x4), (6, vi x6), (7, vi x7), (10, vi x10)] [] h := by
  unfold fX5_unrank_71 at H
  refine j_aload_n (i := 3) (pc' := 72) dX5_unrank_71 rfl rfl 1 rfl ?_
  obtain ⟨v1, e1, H⟩ := bs H
  refine j_getR (pc' := 75) dX5_unrank_72 rfl fl_X5_30 e1 (fun r1 => ?_)
  refine j_iload (pc' := 77) dX5_unrank_75 rfl 4 rfl ?_
  refine j_iload (pc' := 79) dX5_unrank_77 rfl 5 rfl ?_
  obtain ⟨h2, e2, H⟩ := bs H
  refine j_iast (pc' := 80) dX5_unrank_79 rfl rx10 e2 ?_
  refine j_iload (pc' := 82) dX5_unrank_80 rfl 3 rfl ?_
  refine j_iload (pc' := 84) dX5_unrank_82 rfl 5 rfl ?_
  refine j_iconst (pc' := 85) dX5_unrank_84 rfl ?_
  refine j_iadd (pc' := 86) dX5_unrank_85 rfl ?_
  obtain ⟨u3, e3, H⟩ := bs H
  have r3 := c32_R e3
  refine j_mmax (pc' := 89) dX5_unrank_86 rfl ml_X5_34 (by decide) (Nat.le_of_ble_eq_true rfl) rx6 r3 ?_
  refine j_istore (lv' := [(0, vr x0), (3, vr x3), (4, vl x4), (6, vi (max x6 (x10 + 1))), (7, vi x7), (10, vi x10)]) (pc' := 91) dX5_unrank_89 rfl (by decide) [1, 2, 3, 0, 4, 5] rfl ?_
  obtain ⟨u4, e4, H⟩ := bs H
  have r4 := c32_R e4
  refine j_iinc (k0 := 4) (lv' := [(0, vr x0), (3, vr x3), (4, vl x4), (6, vi (max x6 (x10 + 1))), (7, vi (x7 + 1)), (10, vi x10)]) (pc' := 94) dX5_unrank_91 rfl rfl (by decide) [1, 2, 3, 4, 0, 5] rfl ?_
  refine j_goto (tgt := 9) dX5_unrank_94 (by decide) ?_
  refine j_sub (lv' := [(0, vr x0), (3, vr x3), (4, vl x4), (6, vi (max x6 (x10 + 1))), (7, vi (x7 + 1))]) [0, 1, 2, 3, 4] rfl ?_
  exact hk9 x0 x3 x4 (max x6 (x10 + 1)) (x7 + 1) h2 rx4 (R32_max rx6 r3) r4 H
noncomputable def fX5_unrank_43 (k9 : Nat → Nat → Int → Int → Int → Hp → Option (Hp)) : Nat → Nat → Nat → Int → Int → Int → Int → Int → Hp → Option (Hp)
  | 0, _, _, _, _, _, _, _, _ => none
  | n + 1, x0, x3, x4, x6, x7, x8, x10, h => if x6 ≤ x10 then (fX5_unrank_71 k9 x0 x3 x4 x6 x7 x10 h) else (if (lCmp x4 x8) < 0 then (fX5_unrank_71 k9 x0 x3 x4 x6 x7 x10 h) else ((c64 (x4 - x8)).bind fun _ => (c32 (x10 + 1)).bind fun _ => fX5_unrank_43 k9 n x0 x3 (x4 - x8) x6 x7 x8 (x10 + 1) h))
theorem tX5_unrank_43 {L : Nat} {xs : Nat → Int32} {l : Launch} {res : Hp} (k9 : Nat → Nat → Int → Int → Int → Hp → Option (Hp)) (hk9 : ∀ (x0 : Nat) (x3 : Nat) (x4 : Int) (x6 : Int) (x7 : Int) (h : Hp), R64 x4 → R32 x6 → R32 x7 → k9 x0 x3 x4 x6 x7 h = some res → J L xs l RX5 cX5_unrank 11 false 1 (QV res) 0 0 9 [(0, vr x0), (3, vr x3), (4, vl x4), (6, vi x6), (7, vi x7)] [] h) : ∀ (n : Nat) (x0 : Nat) (x3 : Nat) (x4 : Int) (x6 : Int) (x7 : Int) (x8 : Int) (x10 : Int) (h : Hp), R64 x4 → R32 x6 → R32 x7 → R64 x8 → R32 x10 → fX5_unrank_43 k9 n x0 x3 x4 x6 x7 x8 x10 h = some res → J L xs l RX5 cX5_unrank 11 false 1 (QV res) 0 0 43 [(0, vr x0), (3, vr x3), (4, vl x4), (6, vi x6), (7, vi x7), (8, vl x8), (10, vi x10)] [] h := by
  intro n
  induction n with
  | zero => intro x0 x3 x4 x6 x7 x8 x10 h rx4 rx6 rx7 rx8 rx10 H; cases H
  | succ n ih =>
    intro x0 x3 x4 x6 x7 x8 x10 h rx4 rx6 rx7 rx8 rx10 H
    rw [fX5_unrank_43] at H
    refine j_iload (pc' := 45) dX5_unrank_43 rfl 6 rfl ?_
    refine j_iload (pc' := 47) dX5_unrank_45 rfl 3 rfl ?_
    refine j_icmp_ge (tgt := 71) (pc' := 50) dX5_unrank_47 (by decide) rfl rx10 rx6 (fun c1 => ?_) (fun c1 => ?_)
    · rw [if_pos c1] at H
      refine j_sub (lv' := [(0, vr x0), (3, vr x3), (4, vl x4), (6, vi x6), (7, vi x7), (10, vi x10)]) [0, 1, 2, 3, 4, 6] rfl ?_
      exact tX5_unrank_71 _ hk9 x0 x3 x4 x6 x7 x10 h rx4 rx6 rx7 rx10 H
    · rw [if_neg c1] at H
      refine j_lload (pc' := 52) dX5_unrank_50 rfl 2 rfl ?_
      refine j_lload (pc' := 54) dX5_unrank_52 rfl 5 rfl ?_
      refine j_lcmp (pc' := 55) dX5_unrank_54 rfl rx4 rx8 ?_
      refine j_if_lt (tgt := 71) (pc' := 58) dX5_unrank_55 (by decide) rfl (R32_lcmp _ _) (fun c2 => ?_) (fun c2 => ?_)
      · rw [if_pos c2] at H
        refine j_sub (lv' := [(0, vr x0), (3, vr x3), (4, vl x4), (6, vi x6), (7, vi x7), (10, vi x10)]) [0, 1, 2, 3, 4, 6] rfl ?_
        exact tX5_unrank_71 _ hk9 x0 x3 x4 x6 x7 x10 h rx4 rx6 rx7 rx10 H
      · rw [if_neg c2] at H
        refine j_lload (pc' := 60) dX5_unrank_58 rfl 2 rfl ?_
        refine j_lload (pc' := 62) dX5_unrank_60 rfl 5 rfl ?_
        refine j_lsub (pc' := 63) dX5_unrank_62 rfl ?_
        obtain ⟨u3, e3, H⟩ := bs H
        have r3 := c64_R e3
        refine j_lstore (lv' := [(0, vr x0), (3, vr x3), (4, vl (x4 - x8)), (6, vi x6), (7, vi x7), (8, vl x8), (10, vi x10)]) (pc' := 65) dX5_unrank_63 rfl (by decide) [1, 2, 0, 3, 4, 5, 6] rfl ?_
        obtain ⟨u4, e4, H⟩ := bs H
        have r4 := c32_R e4
        refine j_iinc (k0 := 6) (lv' := [(0, vr x0), (3, vr x3), (4, vl (x4 - x8)), (6, vi x6), (7, vi x7), (8, vl x8), (10, vi (x10 + 1))]) (pc' := 68) dX5_unrank_65 rfl rfl (by decide) [1, 2, 3, 4, 5, 6, 0] rfl ?_
        refine j_goto (tgt := 43) dX5_unrank_68 (by decide) ?_
        exact ih x0 x3 (x4 - x8) x6 x7 x8 (x10 + 1) h r3 rx6 rx7 rx8 r4 H
noncomputable def fX5_unrank_9 : Nat → Nat → Nat → Int → Int → Int → Hp → Option (Hp)
  | 0, _, _, _, _, _, _ => none
  | n + 1, x0, x3, x4, x6, x7, h => (getI h 5 x3 0).bind fun v1 => if v1 ≤ x7 then (fX5_unrank_97 x3 x6 h) else ((getR h 4 x0 0).bind fun v3 => (getI h 5 x3 0).bind fun v4 => (ald h 1 v3 ((((x6 * 13) + v4) - 1) - x7)).bind fun v5 => fX5_unrank_43 (fX5_unrank_9 n) FU x0 x3 x4 x6 x7 v5 0 h)
theorem tX5_unrank_9 {L : Nat} {xs : Nat → Int32} {l : Launch} {res : Hp} : ∀ (n : Nat) (x0 : Nat) (x3 : Nat) (x4 : Int) (x6 : Int) (x7 : Int) (h : Hp), R64 x4 → R32 x6 → R32 x7 → fX5_unrank_9 n x0 x3 x4 x6 x7 h = some res → J L xs l RX5 cX5_unrank 11 false 1 (QV res) 0 0 9 [(0, vr x0), (3, vr x3), (4, vl x4), (6, vi x6), (7, vi x7)] [] h := by
  intro n
  induction n with
  | zero => intro x0 x3 x4 x6 x7 h rx4 rx6 rx7 H; cases H
  | succ n ih =>
    intro x0 x3 x4 x6 x7 h rx4 rx6 rx7 H
    rw [fX5_unrank_9] at H
    refine j_iload (pc' := 11) dX5_unrank_9 rfl 4 rfl ?_
    refine j_aload_n (i := 3) (pc' := 12) dX5_unrank_11 rfl rfl 1 rfl ?_
    obtain ⟨v1, e1, H⟩ := bs H
    refine j_getI (pc' := 15) dX5_unrank_12 rfl fl_X5_24 e1 (fun r1 => ?_)
    refine j_icmp_ge (tgt := 97) (pc' := 18) dX5_unrank_15 (by decide) rfl rx7 r1 (fun c2 => ?_) (fun c2 => ?_)
    · rw [if_pos c2] at H
      refine j_sub (lv' := [(3, vr x3), (6, vi x6)]) [1, 3] rfl ?_
      exact tX5_unrank_97   x3 x6 h rx6 H
    · rw [if_neg c2] at H
      refine j_aload_n (i := 0) (pc' := 19) dX5_unrank_18 rfl rfl 0 rfl ?_
      obtain ⟨v3, e3, H⟩ := bs H
      refine j_getR (pc' := 22) dX5_unrank_19 rfl fl_X5_11 e3 (fun r3 => ?_)
      refine j_iload (pc' := 24) dX5_unrank_22 rfl 3 rfl ?_
      refine j_bipush (pc' := 26) dX5_unrank_24 rfl (by decide +kernel) ?_
      refine j_imul (pc' := 27) dX5_unrank_26 rfl ?_
      refine j_aload_n (i := 3) (pc' := 28) dX5_unrank_27 rfl rfl 1 rfl ?_
      obtain ⟨v4, e4, H⟩ := bs H
      refine j_getI (pc' := 31) dX5_unrank_28 rfl fl_X5_24 e4 (fun r4 => ?_)
      refine j_iadd (pc' := 32) dX5_unrank_31 rfl ?_
      refine j_iconst (pc' := 33) dX5_unrank_32 rfl ?_
      refine j_isub (pc' := 34) dX5_unrank_33 rfl ?_
      refine j_iload (pc' := 36) dX5_unrank_34 rfl 4 rfl ?_
      refine j_isub (pc' := 37) dX5_unrank_36 rfl ?_
      obtain ⟨v5, e5, H⟩ := bs H
      refine j_lald (pc' := 38) dX5_unrank_37 rfl e5 (fun r5 => ?_)
      refine j_lstore (lv' := [(0, vr x0), (3, vr x3), (4, vl x4), (6, vi x6), (7, vi x7), (8, vl v5)]) (pc' := 40) dX5_unrank_38 rfl (by decide) [1, 2, 3, 4, 5, 0] rfl ?_
      refine j_iconst (pc' := 41) dX5_unrank_40 rfl ?_
      refine j_istore (lv' := [(0, vr x0), (3, vr x3), (4, vl x4), (6, vi x6), (7, vi x7), (8, vl v5), (10, vi 0)]) (pc' := 43) dX5_unrank_41 rfl (by decide) [1, 2, 3, 4, 5, 6, 0] rfl ?_
      exact tX5_unrank_43 _ ih FU x0 x3 x4 x6 x7 v5 0 h rx4 rx6 rx7 r5 ⟨by decide, by decide⟩ H
noncomputable def fX5_unrank (a0 : Nat) (a1 : Int) (a2 : Nat) (h : Hp) : Option (Hp) :=
  fX5_unrank_9 FU a0 a2 a1 0 0 h
theorem tX5_unrank {L : Nat} {xs : Nat → Int32} {l : Launch} {res : Hp} (a0 : Nat) (a1 : Int) (a2 : Nat) (h : Hp) (ra1 : R64 a1) (H : fX5_unrank a0 a1 a2 h = some res) : J L xs l RX5 cX5_unrank 11 false 1 (QV res) 0 0 0 (alv 0 [vr a0, vl a1, vr a2]) [] h := by
  unfold fX5_unrank at H
  show J L xs l RX5 cX5_unrank 11 false 1 (QV res) 0 0 0 [(0, vr a0), (1, vl a1), (3, vr a2)] [] h
  refine j_lload_n (i := 1) (pc' := 1) dX5_unrank_0 rfl rfl 1 rfl ?_
  refine j_lstore (lv' := [(0, vr a0), (1, vl a1), (3, vr a2), (4, vl a1)]) (pc' := 3) dX5_unrank_1 rfl (by decide) [1, 2, 3, 0] rfl ?_
  refine j_iconst (pc' := 4) dX5_unrank_3 rfl ?_
  refine j_istore (lv' := [(0, vr a0), (1, vl a1), (3, vr a2), (4, vl a1), (6, vi 0)]) (pc' := 6) dX5_unrank_4 rfl (by decide) [1, 2, 3, 4, 0] rfl ?_
  refine j_iconst (pc' := 7) dX5_unrank_6 rfl ?_
  refine j_istore (lv' := [(0, vr a0), (1, vl a1), (3, vr a2), (4, vl a1), (6, vi 0), (7, vi 0)]) (pc' := 9) dX5_unrank_7 rfl (by decide) [1, 2, 3, 4, 5, 0] rfl ?_
  refine j_sub (lv' := [(0, vr a0), (3, vr a2), (4, vl a1), (6, vi 0), (7, vi 0)]) [0, 2, 3, 4, 5] rfl ?_
  exact tX5_unrank_9   FU a0 a2 a1 0 0 h ra1 ⟨by decide, by decide⟩ ⟨by decide, by decide⟩ H
-- X6_allInOne
noncomputable def fX6_allInOne (a0 : Nat) (a1 : Int) (h : Hp) : Option (Hp) :=
  (putV h 5 a0 0 (vi a1)).bind fun h1 => (putV h1 5 a0 1 (vi 1)).bind fun h2 => (getR h2 5 a0 2).bind fun v3 => (fJ7_fill_53178 v3 0 h2).bind fun h4 => some h4
theorem tX6_allInOne {L : Nat} {xs : Nat → Int32} {l : Launch} {res : Hp} (a0 : Nat) (a1 : Int) (h : Hp) (ra1 : R32 a1) (H : fX6_allInOne a0 a1 h = some res) : J L xs l RX6 cX6_allInOne 2 false 2 (QV res) 0 0 0 (alv 0 [vr a0, vi a1]) [] h := by
  unfold fX6_allInOne at H
  show J L xs l RX6 cX6_allInOne 2 false 2 (QV res) 0 0 0 [(0, vr a0), (1, vi a1)] [] h
  refine j_aload_n (i := 0) (pc' := 1) dX6_allInOne_0 rfl rfl 0 rfl ?_
  refine j_iload_n (i := 1) (pc' := 2) dX6_allInOne_1 rfl rfl 1 rfl ?_
  obtain ⟨h1, e1, H⟩ := bs H
  refine j_putV (pc' := 5) dX6_allInOne_2 rfl fp_X6_9 tI ra1 e1 ?_
  refine j_aload_n (i := 0) (pc' := 6) dX6_allInOne_5 rfl rfl 0 rfl ?_
  refine j_iconst (pc' := 7) dX6_allInOne_6 rfl ?_
  obtain ⟨h2, e2, H⟩ := bs H
  refine j_putV (pc' := 10) dX6_allInOne_7 rfl fp_X6_15 tI ⟨by decide, by decide⟩ e2 ?_
  refine j_aload_n (i := 0) (pc' := 11) dX6_allInOne_10 rfl rfl 0 rfl ?_
  obtain ⟨v3, e3, H⟩ := bs H
  refine j_getR (pc' := 14) dX6_allInOne_11 rfl fl_X6_18 e3 (fun r3 => ?_)
  refine j_iconst (pc' := 15) dX6_allInOne_14 rfl ?_
  obtain ⟨h4, e4, H⟩ := bs H
  refine j_cSv (y := yJ7_fill_53178) (dY := 1) (vs := [vr v3, vi 0]) (st := []) (pc' := 18) dX6_allInOne_15 rfl ymJ7_fill_53178 ysJ7_fill_53178 ml_X6_31 (by decide) rfl (Nat.le_of_ble_eq_true rfl) (Nat.le_of_ble_eq_true rfl) (tJ7_fill_53178 v3 0 h2 ⟨by decide, by decide⟩ e4) (fun z4 => ?_)
  obtain rfl := Option.some.inj H
  exact j_vret dX6_allInOne_18 ⟨rfl, rfl⟩
-- X6_pairsApart
noncomputable def fX6_pairsApart_94 (x2 : Int) (h : Hp) : Option (Int × Hp) :=
  some (x2, h)
theorem tX6_pairsApart_94 {L : Nat} {xs : Nat → Int32} {l : Launch} {res : Int × Hp} (x2 : Int) (h : Hp) (rx2 : R32 x2) (H : fX6_pairsApart_94 x2 h = some res) : J L xs l RX6 cX6_pairsApart 7 false 1 (QI res) 0 0 94 [(2, vi x2)] [] h := by
  unfold fX6_pairsApart_94 at H
  refine j_iload_n (i := 2) (pc' := 95) dX6_pairsApart_94 rfl rfl 0 rfl ?_
  obtain rfl := Option.some.inj H
  exact j_iret dX6_pairsApart_95 rx2 ⟨rfl, rfl⟩
noncomputable def fX6_pairsApart_88 (k4 : Nat → Nat → Int → Int → Hp → Option (Int × Hp)) (x0 : Nat) (x1 : Nat) (x2 : Int) (x3 : Int) (h : Hp) : Option (Int × Hp) :=
  (c32 (x3 + 1)).bind fun _ => k4 x0 x1 x2 (x3 + 1) h
theorem tX6_pairsApart_88 {L : Nat} {xs : Nat → Int32} {l : Launch} {res : Int × Hp} (k4 : Nat → Nat → Int → Int → Hp → Option (Int × Hp)) (hk4 : ∀ (x0 : Nat) (x1 : Nat) (x2 : Int) (x3 : Int) (h : Hp), R32 x2 → R32 x3 → k4 x0 x1 x2 x3 h = some res → J L xs l RX6 cX6_pairsApart 7 false 1 (QI res) 0 0 4 [(0, vr x0), (1, vr x1), (2, vi x2), (3, vi x3)] [] h) (x0 : Nat) (x1 : Nat) (x2 : Int) (x3 : Int) (h : Hp) (rx2 : R32 x2) (rx3 : R32 x3) (H : fX6_pairsApart_88 k4 x0 x1 x2 x3 h = some res) : J L xs l RX6 cX6_pairsApart 7 false 1 (QI res) 0 0 88 [(0, vr x0), (1, vr x1), (2, vi x2), (3, vi x3)] [] h := by
  unfold fX6_pairsApart_88 at H
  obtain ⟨u1, e1, H⟩ := bs H
  have r1 := c32_R e1
  refine j_iinc (k0 := 3) (lv' := [(0, vr x0), (1, vr x1), (2, vi x2), (3, vi (x3 + 1))]) (pc' := 91) dX6_pairsApart_88 rfl rfl (by decide) [1, 2, 3, 0] rfl ?_
  refine j_goto (tgt := 4) dX6_pairsApart_91 (by decide) ?_
  exact hk4 x0 x1 x2 (x3 + 1) h rx2 r1 H
noncomputable def fX6_pairsApart_80 (k4 : Nat → Nat → Int → Int → Hp → Option (Int × Hp)) (k15 : Nat → Nat → Int → Int → Int → Hp → Option (Int × Hp)) (x0 : Nat) (x1 : Nat) (x3 : Int) (x4 : Int) (s0 : Int) (s1 : Int) (h : Hp) : Option (Int × Hp) :=
  (c32 (s1 + s0)).bind fun _ => (c32 (x4 + 1)).bind fun _ => k15 x0 x1 (s1 + s0) x3 (x4 + 1) h
theorem tX6_pairsApart_80 {L : Nat} {xs : Nat → Int32} {l : Launch} {res : Int × Hp} (k4 : Nat → Nat → Int → Int → Hp → Option (Int × Hp)) (k15 : Nat → Nat → Int → Int → Int → Hp → Option (Int × Hp)) (hk4 : ∀ (x0 : Nat) (x1 : Nat) (x2 : Int) (x3 : Int) (h : Hp), R32 x2 → R32 x3 → k4 x0 x1 x2 x3 h = some res → J L xs l RX6 cX6_pairsApart 7 false 1 (QI res) 0 0 4 [(0, vr x0), (1, vr x1), (2, vi x2), (3, vi x3)] [] h) (hk15 : ∀ (x0 : Nat) (x1 : Nat) (x2 : Int) (x3 : Int) (x4 : Int) (h : Hp), R32 x2 → R32 x3 → R32 x4 → k15 x0 x1 x2 x3 x4 h = some res → J L xs l RX6 cX6_pairsApart 7 false 1 (QI res) 0 0 15 [(0, vr x0), (1, vr x1), (2, vi x2), (3, vi x3), (4, vi x4)] [] h) (x0 : Nat) (x1 : Nat) (x3 : Int) (x4 : Int) (s0 : Int) (s1 : Int) (h : Hp) (rx3 : R32 x3) (rx4 : R32 x4) (rs0 : R32 s0) (rs1 : R32 s1) (H : fX6_pairsApart_80 k4 k15 x0 x1 x3 x4 s0 s1 h = some res) : J L xs l RX6 cX6_pairsApart 7 false 1 (QI res) 0 0 80 [(0, vr x0), (1, vr x1), (3, vi x3), (4, vi x4)] [vi s0, vi s1] h := by
  unfold fX6_pairsApart_80 at H
  refine j_iadd (pc' := 81) dX6_pairsApart_80 rfl ?_
  obtain ⟨u1, e1, H⟩ := bs H
  have r1 := c32_R e1
  refine j_istore_n (i := 2) (lv' := [(0, vr x0), (1, vr x1), (2, vi (s1 + s0)), (3, vi x3), (4, vi x4)]) (pc' := 82) dX6_pairsApart_81 rfl rfl (by decide) [1, 2, 0, 3, 4] rfl ?_
  obtain ⟨u2, e2, H⟩ := bs H
  have r2 := c32_R e2
  refine j_iinc (k0 := 4) (lv' := [(0, vr x0), (1, vr x1), (2, vi (s1 + s0)), (3, vi x3), (4, vi (x4 + 1))]) (pc' := 85) dX6_pairsApart_82 rfl rfl (by decide) [1, 2, 3, 4, 0] rfl ?_
  refine j_goto (tgt := 15) dX6_pairsApart_85 (by decide) ?_
  exact hk15 x0 x1 (s1 + s0) x3 (x4 + 1) h r1 rx3 r2 H
noncomputable def fX6_pairsApart_65 (k4 : Nat → Nat → Int → Int → Hp → Option (Int × Hp)) (k15 : Nat → Nat → Int → Int → Int → Hp → Option (Int × Hp)) (x0 : Nat) (x1 : Nat) (x2 : Int) (x3 : Int) (x4 : Int) (x5 : Int) (s0 : Int) (h : Hp) : Option (Int × Hp) :=
  if x5 = s0 then (fX6_pairsApart_80 k4 k15 x0 x1 x3 x4 0 x2 h) else (fX6_pairsApart_80 k4 k15 x0 x1 x3 x4 1 x2 h)
theorem tX6_pairsApart_65 {L : Nat} {xs : Nat → Int32} {l : Launch} {res : Int × Hp} (k4 : Nat → Nat → Int → Int → Hp → Option (Int × Hp)) (k15 : Nat → Nat → Int → Int → Int → Hp → Option (Int × Hp)) (hk4 : ∀ (x0 : Nat) (x1 : Nat) (x2 : Int) (x3 : Int) (h : Hp), R32 x2 → R32 x3 → k4 x0 x1 x2 x3 h = some res → J L xs l RX6 cX6_pairsApart 7 false 1 (QI res) 0 0 4 [(0, vr x0), (1, vr x1), (2, vi x2), (3, vi x3)] [] h) (hk15 : ∀ (x0 : Nat) (x1 : Nat) (x2 : Int) (x3 : Int) (x4 : Int) (h : Hp), R32 x2 → R32 x3 → R32 x4 → k15 x0 x1 x2 x3 x4 h = some res → J L xs l RX6 cX6_pairsApart 7 false 1 (QI res) 0 0 15 [(0, vr x0), (1, vr x1), (2, vi x2), (3, vi x3), (4, vi x4)] [] h) (x0 : Nat) (x1 : Nat) (x2 : Int) (x3 : Int) (x4 : Int) (x5 : Int) (s0 : Int) (h : Hp) (rx2 : R32 x2) (rx3 : R32 x3) (rx4 : R32 x4) (rx5 : R32 x5) (rs0 : R32 s0) (H : fX6_pairsApart_65 k4 k15 x0 x1 x2 x3 x4 x5 s0 h = some res) : J L xs l RX6 cX6_pairsApart 7 false 1 (QI res) 0 0 65 [(0, vr x0), (1, vr x1), (2, vi x2), (3, vi x3), (4, vi x4), (5, vi x5)] [vi s0] h := by
  unfold fX6_pairsApart_65 at H
  refine j_istore (lv' := [(0, vr x0), (1, vr x1), (2, vi x2), (3, vi x3), (4, vi x4), (5, vi x5), (6, vi s0)]) (pc' := 67) dX6_pairsApart_65 rfl (by decide) [1, 2, 3, 4, 5, 6, 0] rfl ?_
  refine j_iload_n (i := 2) (pc' := 68) dX6_pairsApart_67 rfl rfl 2 rfl ?_
  refine j_iload (pc' := 70) dX6_pairsApart_68 rfl 5 rfl ?_
  refine j_iload (pc' := 72) dX6_pairsApart_70 rfl 6 rfl ?_
  refine j_icmp_eq (tgt := 79) (pc' := 75) dX6_pairsApart_72 (by decide) rfl rx5 rs0 (fun c1 => ?_) (fun c1 => ?_)
  · rw [if_pos c1] at H
    refine j_iconst (pc' := 80) dX6_pairsApart_79 rfl ?_
    refine j_sub (lv' := [(0, vr x0), (1, vr x1), (3, vi x3), (4, vi x4)]) [0, 1, 3, 4] rfl ?_
    exact tX6_pairsApart_80 _ _ hk4 hk15 x0 x1 x3 x4 0 x2 h rx3 rx4 ⟨by decide, by decide⟩ rx2 H
  · rw [if_neg c1] at H
    refine j_iconst (pc' := 76) dX6_pairsApart_75 rfl ?_
    refine j_goto (tgt := 80) dX6_pairsApart_76 (by decide) ?_
    refine j_sub (lv' := [(0, vr x0), (1, vr x1), (3, vi x3), (4, vi x4)]) [0, 1, 3, 4] rfl ?_
    exact tX6_pairsApart_80 _ _ hk4 hk15 x0 x1 x3 x4 1 x2 h rx3 rx4 ⟨by decide, by decide⟩ rx2 H
noncomputable def fX6_pairsApart_42 (k4 : Nat → Nat → Int → Int → Hp → Option (Int × Hp)) (k15 : Nat → Nat → Int → Int → Int → Hp → Option (Int × Hp)) (x0 : Nat) (x1 : Nat) (x2 : Int) (x3 : Int) (x4 : Int) (s0 : Int) (h : Hp) : Option (Int × Hp) :=
  (getR h 5 x1 2).bind fun v1 => (ald h 0 v1 x3).bind fun v2 => (getR h 5 x1 2).bind fun v3 => (ald h 0 v3 x4).bind fun v4 => if v2 = v4 then (fX6_pairsApart_65 k4 k15 x0 x1 x2 x3 x4 s0 1 h) else (fX6_pairsApart_65 k4 k15 x0 x1 x2 x3 x4 s0 0 h)
theorem tX6_pairsApart_42 {L : Nat} {xs : Nat → Int32} {l : Launch} {res : Int × Hp} (k4 : Nat → Nat → Int → Int → Hp → Option (Int × Hp)) (k15 : Nat → Nat → Int → Int → Int → Hp → Option (Int × Hp)) (hk4 : ∀ (x0 : Nat) (x1 : Nat) (x2 : Int) (x3 : Int) (h : Hp), R32 x2 → R32 x3 → k4 x0 x1 x2 x3 h = some res → J L xs l RX6 cX6_pairsApart 7 false 1 (QI res) 0 0 4 [(0, vr x0), (1, vr x1), (2, vi x2), (3, vi x3)] [] h) (hk15 : ∀ (x0 : Nat) (x1 : Nat) (x2 : Int) (x3 : Int) (x4 : Int) (h : Hp), R32 x2 → R32 x3 → R32 x4 → k15 x0 x1 x2 x3 x4 h = some res → J L xs l RX6 cX6_pairsApart 7 false 1 (QI res) 0 0 15 [(0, vr x0), (1, vr x1), (2, vi x2), (3, vi x3), (4, vi x4)] [] h) (x0 : Nat) (x1 : Nat) (x2 : Int) (x3 : Int) (x4 : Int) (s0 : Int) (h : Hp) (rx2 : R32 x2) (rx3 : R32 x3) (rx4 : R32 x4) (rs0 : R32 s0) (H : fX6_pairsApart_42 k4 k15 x0 x1 x2 x3 x4 s0 h = some res) : J L xs l RX6 cX6_pairsApart 7 false 1 (QI res) 0 0 42 [(0, vr x0), (1, vr x1), (2, vi x2), (3, vi x3), (4, vi x4)] [vi s0] h := by
  unfold fX6_pairsApart_42 at H
  refine j_istore (lv' := [(0, vr x0), (1, vr x1), (2, vi x2), (3, vi x3), (4, vi x4), (5, vi s0)]) (pc' := 44) dX6_pairsApart_42 rfl (by decide) [1, 2, 3, 4, 5, 0] rfl ?_
  refine j_aload_n (i := 1) (pc' := 45) dX6_pairsApart_44 rfl rfl 1 rfl ?_
  obtain ⟨v1, e1, H⟩ := bs H
  refine j_getR (pc' := 48) dX6_pairsApart_45 rfl fl_X6_18 e1 (fun r1 => ?_)
  refine j_iload_n (i := 3) (pc' := 49) dX6_pairsApart_48 rfl rfl 3 rfl ?_
  obtain ⟨v2, e2, H⟩ := bs H
  refine j_iald (pc' := 50) dX6_pairsApart_49 rfl e2 (fun r2 => ?_)
  refine j_aload_n (i := 1) (pc' := 51) dX6_pairsApart_50 rfl rfl 1 rfl ?_
  obtain ⟨v3, e3, H⟩ := bs H
  refine j_getR (pc' := 54) dX6_pairsApart_51 rfl fl_X6_18 e3 (fun r3 => ?_)
  refine j_iload (pc' := 56) dX6_pairsApart_54 rfl 4 rfl ?_
  obtain ⟨v4, e4, H⟩ := bs H
  refine j_iald (pc' := 57) dX6_pairsApart_56 rfl e4 (fun r4 => ?_)
  refine j_icmp_ne (tgt := 64) (pc' := 60) dX6_pairsApart_57 (by decide) rfl r2 r4 (fun c5 => ?_) (fun c5 => ?_)
  · rw [if_neg c5] at H
    refine j_iconst (pc' := 65) dX6_pairsApart_64 rfl ?_
    exact tX6_pairsApart_65 _ _ hk4 hk15 x0 x1 x2 x3 x4 s0 0 h rx2 rx3 rx4 rs0 ⟨by decide, by decide⟩ H
  · rw [if_pos c5] at H
    refine j_iconst (pc' := 61) dX6_pairsApart_60 rfl ?_
    refine j_goto (tgt := 65) dX6_pairsApart_61 (by decide) ?_
    exact tX6_pairsApart_65 _ _ hk4 hk15 x0 x1 x2 x3 x4 s0 1 h rx2 rx3 rx4 rs0 ⟨by decide, by decide⟩ H
noncomputable def fX6_pairsApart_15 (k4 : Nat → Nat → Int → Int → Hp → Option (Int × Hp)) : Nat → Nat → Nat → Int → Int → Int → Hp → Option (Int × Hp)
  | 0, _, _, _, _, _, _ => none
  | n + 1, x0, x1, x2, x3, x4, h => if x3 ≤ x4 then (fX6_pairsApart_88 k4 x0 x1 x2 x3 h) else ((getR h 5 x0 2).bind fun v2 => (ald h 0 v2 x3).bind fun v3 => (getR h 5 x0 2).bind fun v4 => (ald h 0 v4 x4).bind fun v5 => if v3 = v5 then (fX6_pairsApart_42 k4 (fX6_pairsApart_15 k4 n) x0 x1 x2 x3 x4 1 h) else (fX6_pairsApart_42 k4 (fX6_pairsApart_15 k4 n) x0 x1 x2 x3 x4 0 h))
theorem tX6_pairsApart_15 {L : Nat} {xs : Nat → Int32} {l : Launch} {res : Int × Hp} (k4 : Nat → Nat → Int → Int → Hp → Option (Int × Hp)) (hk4 : ∀ (x0 : Nat) (x1 : Nat) (x2 : Int) (x3 : Int) (h : Hp), R32 x2 → R32 x3 → k4 x0 x1 x2 x3 h = some res → J L xs l RX6 cX6_pairsApart 7 false 1 (QI res) 0 0 4 [(0, vr x0), (1, vr x1), (2, vi x2), (3, vi x3)] [] h) : ∀ (n : Nat) (x0 : Nat) (x1 : Nat) (x2 : Int) (x3 : Int) (x4 : Int) (h : Hp), R32 x2 → R32 x3 → R32 x4 → fX6_pairsApart_15 k4 n x0 x1 x2 x3 x4 h = some res → J L xs l RX6 cX6_pairsApart 7 false 1 (QI res) 0 0 15 [(0, vr x0), (1, vr x1), (2, vi x2), (3, vi x3), (4, vi x4)] [] h := by
  intro n
  induction n with
  | zero => intro x0 x1 x2 x3 x4 h rx2 rx3 rx4 H; cases H
  | succ n ih =>
    intro x0 x1 x2 x3 x4 h rx2 rx3 rx4 H
    rw [fX6_pairsApart_15] at H
    refine j_iload (pc' := 17) dX6_pairsApart_15 rfl 4 rfl ?_
    refine j_iload_n (i := 3) (pc' := 18) dX6_pairsApart_17 rfl rfl 3 rfl ?_
    refine j_icmp_ge (tgt := 88) (pc' := 21) dX6_pairsApart_18 (by decide) rfl rx4 rx3 (fun c1 => ?_) (fun c1 => ?_)
    · rw [if_pos c1] at H
      refine j_sub (lv' := [(0, vr x0), (1, vr x1), (2, vi x2), (3, vi x3)]) [0, 1, 2, 3] rfl ?_
      exact tX6_pairsApart_88 _ hk4 x0 x1 x2 x3 h rx2 rx3 H
    · rw [if_neg c1] at H
      refine j_aload_n (i := 0) (pc' := 22) dX6_pairsApart_21 rfl rfl 0 rfl ?_
      obtain ⟨v2, e2, H⟩ := bs H
      refine j_getR (pc' := 25) dX6_pairsApart_22 rfl fl_X6_18 e2 (fun r2 => ?_)
      refine j_iload_n (i := 3) (pc' := 26) dX6_pairsApart_25 rfl rfl 3 rfl ?_
      obtain ⟨v3, e3, H⟩ := bs H
      refine j_iald (pc' := 27) dX6_pairsApart_26 rfl e3 (fun r3 => ?_)
      refine j_aload_n (i := 0) (pc' := 28) dX6_pairsApart_27 rfl rfl 0 rfl ?_
      obtain ⟨v4, e4, H⟩ := bs H
      refine j_getR (pc' := 31) dX6_pairsApart_28 rfl fl_X6_18 e4 (fun r4 => ?_)
      refine j_iload (pc' := 33) dX6_pairsApart_31 rfl 4 rfl ?_
      obtain ⟨v5, e5, H⟩ := bs H
      refine j_iald (pc' := 34) dX6_pairsApart_33 rfl e5 (fun r5 => ?_)
      refine j_icmp_ne (tgt := 41) (pc' := 37) dX6_pairsApart_34 (by decide) rfl r3 r5 (fun c6 => ?_) (fun c6 => ?_)
      · rw [if_neg c6] at H
        refine j_iconst (pc' := 42) dX6_pairsApart_41 rfl ?_
        exact tX6_pairsApart_42 _ _ hk4 ih x0 x1 x2 x3 x4 0 h rx2 rx3 rx4 ⟨by decide, by decide⟩ H
      · rw [if_pos c6] at H
        refine j_iconst (pc' := 38) dX6_pairsApart_37 rfl ?_
        refine j_goto (tgt := 42) dX6_pairsApart_38 (by decide) ?_
        exact tX6_pairsApart_42 _ _ hk4 ih x0 x1 x2 x3 x4 1 h rx2 rx3 rx4 ⟨by decide, by decide⟩ H
noncomputable def fX6_pairsApart_4 : Nat → Nat → Nat → Int → Int → Hp → Option (Int × Hp)
  | 0, _, _, _, _, _ => none
  | n + 1, x0, x1, x2, x3, h => (getI h 5 x0 0).bind fun v1 => if v1 ≤ x3 then (fX6_pairsApart_94 x2 h) else (fX6_pairsApart_15 (fX6_pairsApart_4 n) FU x0 x1 x2 x3 0 h)
theorem tX6_pairsApart_4 {L : Nat} {xs : Nat → Int32} {l : Launch} {res : Int × Hp} : ∀ (n : Nat) (x0 : Nat) (x1 : Nat) (x2 : Int) (x3 : Int) (h : Hp), R32 x2 → R32 x3 → fX6_pairsApart_4 n x0 x1 x2 x3 h = some res → J L xs l RX6 cX6_pairsApart 7 false 1 (QI res) 0 0 4 [(0, vr x0), (1, vr x1), (2, vi x2), (3, vi x3)] [] h := by
  intro n
  induction n with
  | zero => intro x0 x1 x2 x3 h rx2 rx3 H; cases H
  | succ n ih =>
    intro x0 x1 x2 x3 h rx2 rx3 H
    rw [fX6_pairsApart_4] at H
    refine j_iload_n (i := 3) (pc' := 5) dX6_pairsApart_4 rfl rfl 3 rfl ?_
    refine j_aload_n (i := 0) (pc' := 6) dX6_pairsApart_5 rfl rfl 0 rfl ?_
    obtain ⟨v1, e1, H⟩ := bs H
    refine j_getI (pc' := 9) dX6_pairsApart_6 rfl fl_X6_9 e1 (fun r1 => ?_)
    refine j_icmp_ge (tgt := 94) (pc' := 12) dX6_pairsApart_9 (by decide) rfl rx3 r1 (fun c2 => ?_) (fun c2 => ?_)
    · rw [if_pos c2] at H
      refine j_sub (lv' := [(2, vi x2)]) [2] rfl ?_
      exact tX6_pairsApart_94   x2 h rx2 H
    · rw [if_neg c2] at H
      refine j_iconst (pc' := 13) dX6_pairsApart_12 rfl ?_
      refine j_istore (lv' := [(0, vr x0), (1, vr x1), (2, vi x2), (3, vi x3), (4, vi 0)]) (pc' := 15) dX6_pairsApart_13 rfl (by decide) [1, 2, 3, 4, 0] rfl ?_
      exact tX6_pairsApart_15 _ ih FU x0 x1 x2 x3 0 h rx2 rx3 ⟨by decide, by decide⟩ H
noncomputable def fX6_pairsApart (a0 : Nat) (a1 : Nat) (h : Hp) : Option (Int × Hp) :=
  fX6_pairsApart_4 FU a0 a1 0 1 h
theorem tX6_pairsApart {L : Nat} {xs : Nat → Int32} {l : Launch} {res : Int × Hp} (a0 : Nat) (a1 : Nat) (h : Hp)  (H : fX6_pairsApart a0 a1 h = some res) : J L xs l RX6 cX6_pairsApart 7 false 1 (QI res) 0 0 0 (alv 0 [vr a0, vr a1]) [] h := by
  unfold fX6_pairsApart at H
  show J L xs l RX6 cX6_pairsApart 7 false 1 (QI res) 0 0 0 [(0, vr a0), (1, vr a1)] [] h
  refine j_iconst (pc' := 1) dX6_pairsApart_0 rfl ?_
  refine j_istore_n (i := 2) (lv' := [(0, vr a0), (1, vr a1), (2, vi 0)]) (pc' := 2) dX6_pairsApart_1 rfl rfl (by decide) [1, 2, 0] rfl ?_
  refine j_iconst (pc' := 3) dX6_pairsApart_2 rfl ?_
  refine j_istore_n (i := 3) (lv' := [(0, vr a0), (1, vr a1), (2, vi 0), (3, vi 1)]) (pc' := 4) dX6_pairsApart_3 rfl rfl (by decide) [1, 2, 3, 0] rfl ?_
  exact tX6_pairsApart_4   FU a0 a1 0 1 h ⟨by decide, by decide⟩ ⟨by decide, by decide⟩ H
-- X6_meet
noncomputable def fX6_meet_123 (x0 : Nat) (h : Hp) : Option (Hp) :=
  (getR h 5 x0 3).bind fun v1 => (getR h 5 x0 2).bind fun v2 => (getI h 5 x0 0).bind fun v3 => (cpyI h v1 0 v2 0 v3).bind fun h4 => some h4
theorem tX6_meet_123 {L : Nat} {xs : Nat → Int32} {l : Launch} {res : Hp} (x0 : Nat) (h : Hp)  (H : fX6_meet_123 x0 h = some res) : J L xs l RX6 cX6_meet 4 false 1 (QV res) 0 0 123 [(0, vr x0)] [] h := by
  unfold fX6_meet_123 at H
  refine j_aload_n (i := 0) (pc' := 124) dX6_meet_123 rfl rfl 0 rfl ?_
  obtain ⟨v1, e1, H⟩ := bs H
  refine j_getR (pc' := 127) dX6_meet_124 rfl fl_X6_22 e1 (fun r1 => ?_)
  refine j_iconst (pc' := 128) dX6_meet_127 rfl ?_
  refine j_aload_n (i := 0) (pc' := 129) dX6_meet_128 rfl rfl 0 rfl ?_
  obtain ⟨v2, e2, H⟩ := bs H
  refine j_getR (pc' := 132) dX6_meet_129 rfl fl_X6_18 e2 (fun r2 => ?_)
  refine j_iconst (pc' := 133) dX6_meet_132 rfl ?_
  refine j_aload_n (i := 0) (pc' := 134) dX6_meet_133 rfl rfl 0 rfl ?_
  obtain ⟨v3, e3, H⟩ := bs H
  refine j_getI (pc' := 137) dX6_meet_134 rfl fl_X6_9 e3 (fun r3 => ?_)
  obtain ⟨h4, e4, H⟩ := bs H
  refine j_cpy (pc' := 140) dX6_meet_137 rfl ml_X6_25 sy_1 sy_2 sy_3 (by decide) (Nat.le_of_ble_eq_true rfl) e4 ?_
  obtain rfl := Option.some.inj H
  exact j_vret dX6_meet_140 ⟨rfl, rfl⟩
noncomputable def fX6_meet_117 (k7 : Nat → Nat → Int → Hp → Option (Hp)) (x0 : Nat) (x1 : Nat) (x2 : Int) (h : Hp) : Option (Hp) :=
  (c32 (x2 + 1)).bind fun _ => k7 x0 x1 (x2 + 1) h
theorem tX6_meet_117 {L : Nat} {xs : Nat → Int32} {l : Launch} {res : Hp} (k7 : Nat → Nat → Int → Hp → Option (Hp)) (hk7 : ∀ (x0 : Nat) (x1 : Nat) (x2 : Int) (h : Hp), R32 x2 → k7 x0 x1 x2 h = some res → J L xs l RX6 cX6_meet 4 false 1 (QV res) 0 0 7 [(0, vr x0), (1, vr x1), (2, vi x2)] [] h) (x0 : Nat) (x1 : Nat) (x2 : Int) (h : Hp) (rx2 : R32 x2) (H : fX6_meet_117 k7 x0 x1 x2 h = some res) : J L xs l RX6 cX6_meet 4 false 1 (QV res) 0 0 117 [(0, vr x0), (1, vr x1), (2, vi x2)] [] h := by
  unfold fX6_meet_117 at H
  obtain ⟨u1, e1, H⟩ := bs H
  have r1 := c32_R e1
  refine j_iinc (k0 := 2) (lv' := [(0, vr x0), (1, vr x1), (2, vi (x2 + 1))]) (pc' := 120) dX6_meet_117 rfl rfl (by decide) [1, 2, 0] rfl ?_
  refine j_goto (tgt := 7) dX6_meet_120 (by decide) ?_
  exact hk7 x0 x1 (x2 + 1) h r1 H
noncomputable def fX6_meet_87 (k7 : Nat → Nat → Int → Hp → Option (Hp)) (x0 : Nat) (x1 : Nat) (x2 : Int) (h : Hp) : Option (Hp) :=
  (getR h 5 x0 3).bind fun v1 => (ald h 0 v1 x2).bind fun v2 => if v2 = (-1) then ((getR h 5 x0 3).bind fun v4 => (getI h 5 x0 1).bind fun v5 => (ast h 0 v4 x2 v5).bind fun h6 => (getI h6 5 x0 1).bind fun v7 => (c32 (v7 + 1)).bind fun _ => (putV h6 5 x0 1 (vi (v7 + 1))).bind fun h9 => fX6_meet_117 k7 x0 x1 x2 h9) else (fX6_meet_117 k7 x0 x1 x2 h)
theorem tX6_meet_87 {L : Nat} {xs : Nat → Int32} {l : Launch} {res : Hp} (k7 : Nat → Nat → Int → Hp → Option (Hp)) (hk7 : ∀ (x0 : Nat) (x1 : Nat) (x2 : Int) (h : Hp), R32 x2 → k7 x0 x1 x2 h = some res → J L xs l RX6 cX6_meet 4 false 1 (QV res) 0 0 7 [(0, vr x0), (1, vr x1), (2, vi x2)] [] h) (x0 : Nat) (x1 : Nat) (x2 : Int) (h : Hp) (rx2 : R32 x2) (H : fX6_meet_87 k7 x0 x1 x2 h = some res) : J L xs l RX6 cX6_meet 4 false 1 (QV res) 0 0 87 [(0, vr x0), (1, vr x1), (2, vi x2)] [] h := by
  unfold fX6_meet_87 at H
  refine j_aload_n (i := 0) (pc' := 88) dX6_meet_87 rfl rfl 0 rfl ?_
  obtain ⟨v1, e1, H⟩ := bs H
  refine j_getR (pc' := 91) dX6_meet_88 rfl fl_X6_22 e1 (fun r1 => ?_)
  refine j_iload_n (i := 2) (pc' := 92) dX6_meet_91 rfl rfl 2 rfl ?_
  obtain ⟨v2, e2, H⟩ := bs H
  refine j_iald (pc' := 93) dX6_meet_92 rfl e2 (fun r2 => ?_)
  refine j_iconst (pc' := 94) dX6_meet_93 rfl ?_
  refine j_icmp_ne (tgt := 117) (pc' := 97) dX6_meet_94 (by decide) rfl r2 ⟨by decide, by decide⟩ (fun c3 => ?_) (fun c3 => ?_)
  · rw [if_neg c3] at H
    exact tX6_meet_117 _ hk7 x0 x1 x2 h rx2 H
  · rw [if_pos c3] at H
    refine j_aload_n (i := 0) (pc' := 98) dX6_meet_97 rfl rfl 0 rfl ?_
    obtain ⟨v4, e4, H⟩ := bs H
    refine j_getR (pc' := 101) dX6_meet_98 rfl fl_X6_22 e4 (fun r4 => ?_)
    refine j_iload_n (i := 2) (pc' := 102) dX6_meet_101 rfl rfl 2 rfl ?_
    refine j_aload_n (i := 0) (pc' := 103) dX6_meet_102 rfl rfl 0 rfl ?_
    obtain ⟨v5, e5, H⟩ := bs H
    refine j_getI (pc' := 106) dX6_meet_103 rfl fl_X6_15 e5 (fun r5 => ?_)
    obtain ⟨h6, e6, H⟩ := bs H
    refine j_iast (pc' := 107) dX6_meet_106 rfl r5 e6 ?_
    refine j_aload_n (i := 0) (pc' := 108) dX6_meet_107 rfl rfl 0 rfl ?_
    refine j_dup (pc' := 109) dX6_meet_108 rfl rfl ?_
    obtain ⟨v7, e7, H⟩ := bs H
    refine j_getI (pc' := 112) dX6_meet_109 rfl fl_X6_15 e7 (fun r7 => ?_)
    refine j_iconst (pc' := 113) dX6_meet_112 rfl ?_
    refine j_iadd (pc' := 114) dX6_meet_113 rfl ?_
    obtain ⟨u8, e8, H⟩ := bs H
    have r8 := c32_R e8
    obtain ⟨h9, e9, H⟩ := bs H
    refine j_putV (pc' := 117) dX6_meet_114 rfl fp_X6_15 tI r8 e9 ?_
    exact tX6_meet_117 _ hk7 x0 x1 x2 h9 rx2 H
noncomputable def fX6_meet_81 (k7 : Nat → Nat → Int → Hp → Option (Hp)) (k24 : Nat → Nat → Int → Int → Hp → Option (Hp)) (x0 : Nat) (x1 : Nat) (x2 : Int) (x3 : Int) (h : Hp) : Option (Hp) :=
  (c32 (x3 + 1)).bind fun _ => k24 x0 x1 x2 (x3 + 1) h
theorem tX6_meet_81 {L : Nat} {xs : Nat → Int32} {l : Launch} {res : Hp} (k7 : Nat → Nat → Int → Hp → Option (Hp)) (k24 : Nat → Nat → Int → Int → Hp → Option (Hp)) (hk7 : ∀ (x0 : Nat) (x1 : Nat) (x2 : Int) (h : Hp), R32 x2 → k7 x0 x1 x2 h = some res → J L xs l RX6 cX6_meet 4 false 1 (QV res) 0 0 7 [(0, vr x0), (1, vr x1), (2, vi x2)] [] h) (hk24 : ∀ (x0 : Nat) (x1 : Nat) (x2 : Int) (x3 : Int) (h : Hp), R32 x2 → R32 x3 → k24 x0 x1 x2 x3 h = some res → J L xs l RX6 cX6_meet 4 false 1 (QV res) 0 0 24 [(0, vr x0), (1, vr x1), (2, vi x2), (3, vi x3)] [] h) (x0 : Nat) (x1 : Nat) (x2 : Int) (x3 : Int) (h : Hp) (rx2 : R32 x2) (rx3 : R32 x3) (H : fX6_meet_81 k7 k24 x0 x1 x2 x3 h = some res) : J L xs l RX6 cX6_meet 4 false 1 (QV res) 0 0 81 [(0, vr x0), (1, vr x1), (2, vi x2), (3, vi x3)] [] h := by
  unfold fX6_meet_81 at H
  obtain ⟨u1, e1, H⟩ := bs H
  have r1 := c32_R e1
  refine j_iinc (k0 := 3) (lv' := [(0, vr x0), (1, vr x1), (2, vi x2), (3, vi (x3 + 1))]) (pc' := 84) dX6_meet_81 rfl rfl (by decide) [1, 2, 3, 0] rfl ?_
  refine j_goto (tgt := 24) dX6_meet_84 (by decide) ?_
  exact hk24 x0 x1 x2 (x3 + 1) h rx2 r1 H
noncomputable def fX6_meet_24 (k7 : Nat → Nat → Int → Hp → Option (Hp)) : Nat → Nat → Nat → Int → Int → Hp → Option (Hp)
  | 0, _, _, _, _, _ => none
  | n + 1, x0, x1, x2, x3, h => if x2 ≤ x3 then (fX6_meet_87 k7 x0 x1 x2 h) else ((getR h 5 x0 3).bind fun v2 => (ald h 0 v2 x2).bind fun v3 => if v3 = (-1) then ((getR h 5 x0 2).bind fun v5 => (ald h 0 v5 x3).bind fun v6 => (getR h 5 x0 2).bind fun v7 => (ald h 0 v7 x2).bind fun v8 => if v6 = v8 then ((getR h 5 x1 2).bind fun v10 => (ald h 0 v10 x3).bind fun v11 => (getR h 5 x1 2).bind fun v12 => (ald h 0 v12 x2).bind fun v13 => if v11 = v13 then ((getR h 5 x0 3).bind fun v15 => (getR h 5 x0 3).bind fun v16 => (ald h 0 v16 x3).bind fun v17 => (ast h 0 v15 x2 v17).bind fun h18 => fX6_meet_81 k7 (fX6_meet_24 k7 n) x0 x1 x2 x3 h18) else (fX6_meet_81 k7 (fX6_meet_24 k7 n) x0 x1 x2 x3 h)) else (fX6_meet_81 k7 (fX6_meet_24 k7 n) x0 x1 x2 x3 h)) else (fX6_meet_87 k7 x0 x1 x2 h))
theorem tX6_meet_24 {L : Nat} {xs : Nat → Int32} {l : Launch} {res : Hp} (k7 : Nat → Nat → Int → Hp → Option (Hp)) (hk7 : ∀ (x0 : Nat) (x1 : Nat) (x2 : Int) (h : Hp), R32 x2 → k7 x0 x1 x2 h = some res → J L xs l RX6 cX6_meet 4 false 1 (QV res) 0 0 7 [(0, vr x0), (1, vr x1), (2, vi x2)] [] h) : ∀ (n : Nat) (x0 : Nat) (x1 : Nat) (x2 : Int) (x3 : Int) (h : Hp), R32 x2 → R32 x3 → fX6_meet_24 k7 n x0 x1 x2 x3 h = some res → J L xs l RX6 cX6_meet 4 false 1 (QV res) 0 0 24 [(0, vr x0), (1, vr x1), (2, vi x2), (3, vi x3)] [] h := by
  intro n
  induction n with
  | zero => intro x0 x1 x2 x3 h rx2 rx3 H; cases H
  | succ n ih =>
    intro x0 x1 x2 x3 h rx2 rx3 H
    rw [fX6_meet_24] at H
    refine j_iload_n (i := 3) (pc' := 25) dX6_meet_24 rfl rfl 3 rfl ?_
    refine j_iload_n (i := 2) (pc' := 26) dX6_meet_25 rfl rfl 2 rfl ?_
    refine j_icmp_ge (tgt := 87) (pc' := 29) dX6_meet_26 (by decide) rfl rx3 rx2 (fun c1 => ?_) (fun c1 => ?_)
    · rw [if_pos c1] at H
      refine j_sub (lv' := [(0, vr x0), (1, vr x1), (2, vi x2)]) [0, 1, 2] rfl ?_
      exact tX6_meet_87 _ hk7 x0 x1 x2 h rx2 H
    · rw [if_neg c1] at H
      refine j_aload_n (i := 0) (pc' := 30) dX6_meet_29 rfl rfl 0 rfl ?_
      obtain ⟨v2, e2, H⟩ := bs H
      refine j_getR (pc' := 33) dX6_meet_30 rfl fl_X6_22 e2 (fun r2 => ?_)
      refine j_iload_n (i := 2) (pc' := 34) dX6_meet_33 rfl rfl 2 rfl ?_
      obtain ⟨v3, e3, H⟩ := bs H
      refine j_iald (pc' := 35) dX6_meet_34 rfl e3 (fun r3 => ?_)
      refine j_iconst (pc' := 36) dX6_meet_35 rfl ?_
      refine j_icmp_ne (tgt := 87) (pc' := 39) dX6_meet_36 (by decide) rfl r3 ⟨by decide, by decide⟩ (fun c4 => ?_) (fun c4 => ?_)
      · rw [if_neg c4] at H
        refine j_sub (lv' := [(0, vr x0), (1, vr x1), (2, vi x2)]) [0, 1, 2] rfl ?_
        exact tX6_meet_87 _ hk7 x0 x1 x2 h rx2 H
      · rw [if_pos c4] at H
        refine j_aload_n (i := 0) (pc' := 40) dX6_meet_39 rfl rfl 0 rfl ?_
        obtain ⟨v5, e5, H⟩ := bs H
        refine j_getR (pc' := 43) dX6_meet_40 rfl fl_X6_18 e5 (fun r5 => ?_)
        refine j_iload_n (i := 3) (pc' := 44) dX6_meet_43 rfl rfl 3 rfl ?_
        obtain ⟨v6, e6, H⟩ := bs H
        refine j_iald (pc' := 45) dX6_meet_44 rfl e6 (fun r6 => ?_)
        refine j_aload_n (i := 0) (pc' := 46) dX6_meet_45 rfl rfl 0 rfl ?_
        obtain ⟨v7, e7, H⟩ := bs H
        refine j_getR (pc' := 49) dX6_meet_46 rfl fl_X6_18 e7 (fun r7 => ?_)
        refine j_iload_n (i := 2) (pc' := 50) dX6_meet_49 rfl rfl 2 rfl ?_
        obtain ⟨v8, e8, H⟩ := bs H
        refine j_iald (pc' := 51) dX6_meet_50 rfl e8 (fun r8 => ?_)
        refine j_icmp_ne (tgt := 81) (pc' := 54) dX6_meet_51 (by decide) rfl r6 r8 (fun c9 => ?_) (fun c9 => ?_)
        · rw [if_neg c9] at H
          exact tX6_meet_81 _ _ hk7 ih x0 x1 x2 x3 h rx2 rx3 H
        · rw [if_pos c9] at H
          refine j_aload_n (i := 1) (pc' := 55) dX6_meet_54 rfl rfl 1 rfl ?_
          obtain ⟨v10, e10, H⟩ := bs H
          refine j_getR (pc' := 58) dX6_meet_55 rfl fl_X6_18 e10 (fun r10 => ?_)
          refine j_iload_n (i := 3) (pc' := 59) dX6_meet_58 rfl rfl 3 rfl ?_
          obtain ⟨v11, e11, H⟩ := bs H
          refine j_iald (pc' := 60) dX6_meet_59 rfl e11 (fun r11 => ?_)
          refine j_aload_n (i := 1) (pc' := 61) dX6_meet_60 rfl rfl 1 rfl ?_
          obtain ⟨v12, e12, H⟩ := bs H
          refine j_getR (pc' := 64) dX6_meet_61 rfl fl_X6_18 e12 (fun r12 => ?_)
          refine j_iload_n (i := 2) (pc' := 65) dX6_meet_64 rfl rfl 2 rfl ?_
          obtain ⟨v13, e13, H⟩ := bs H
          refine j_iald (pc' := 66) dX6_meet_65 rfl e13 (fun r13 => ?_)
          refine j_icmp_ne (tgt := 81) (pc' := 69) dX6_meet_66 (by decide) rfl r11 r13 (fun c14 => ?_) (fun c14 => ?_)
          · rw [if_neg c14] at H
            exact tX6_meet_81 _ _ hk7 ih x0 x1 x2 x3 h rx2 rx3 H
          · rw [if_pos c14] at H
            refine j_aload_n (i := 0) (pc' := 70) dX6_meet_69 rfl rfl 0 rfl ?_
            obtain ⟨v15, e15, H⟩ := bs H
            refine j_getR (pc' := 73) dX6_meet_70 rfl fl_X6_22 e15 (fun r15 => ?_)
            refine j_iload_n (i := 2) (pc' := 74) dX6_meet_73 rfl rfl 2 rfl ?_
            refine j_aload_n (i := 0) (pc' := 75) dX6_meet_74 rfl rfl 0 rfl ?_
            obtain ⟨v16, e16, H⟩ := bs H
            refine j_getR (pc' := 78) dX6_meet_75 rfl fl_X6_22 e16 (fun r16 => ?_)
            refine j_iload_n (i := 3) (pc' := 79) dX6_meet_78 rfl rfl 3 rfl ?_
            obtain ⟨v17, e17, H⟩ := bs H
            refine j_iald (pc' := 80) dX6_meet_79 rfl e17 (fun r17 => ?_)
            obtain ⟨h18, e18, H⟩ := bs H
            refine j_iast (pc' := 81) dX6_meet_80 rfl r17 e18 ?_
            exact tX6_meet_81 _ _ hk7 ih x0 x1 x2 x3 h18 rx2 rx3 H
noncomputable def fX6_meet_7 : Nat → Nat → Nat → Int → Hp → Option (Hp)
  | 0, _, _, _, _ => none
  | n + 1, x0, x1, x2, h => (getI h 5 x0 0).bind fun v1 => if v1 ≤ x2 then (fX6_meet_123 x0 h) else ((getR h 5 x0 3).bind fun v3 => (ast h 0 v3 x2 (-1)).bind fun h4 => fX6_meet_24 (fX6_meet_7 n) FU x0 x1 x2 0 h4)
theorem tX6_meet_7 {L : Nat} {xs : Nat → Int32} {l : Launch} {res : Hp} : ∀ (n : Nat) (x0 : Nat) (x1 : Nat) (x2 : Int) (h : Hp), R32 x2 → fX6_meet_7 n x0 x1 x2 h = some res → J L xs l RX6 cX6_meet 4 false 1 (QV res) 0 0 7 [(0, vr x0), (1, vr x1), (2, vi x2)] [] h := by
  intro n
  induction n with
  | zero => intro x0 x1 x2 h rx2 H; cases H
  | succ n ih =>
    intro x0 x1 x2 h rx2 H
    rw [fX6_meet_7] at H
    refine j_iload_n (i := 2) (pc' := 8) dX6_meet_7 rfl rfl 2 rfl ?_
    refine j_aload_n (i := 0) (pc' := 9) dX6_meet_8 rfl rfl 0 rfl ?_
    obtain ⟨v1, e1, H⟩ := bs H
    refine j_getI (pc' := 12) dX6_meet_9 rfl fl_X6_9 e1 (fun r1 => ?_)
    refine j_icmp_ge (tgt := 123) (pc' := 15) dX6_meet_12 (by decide) rfl rx2 r1 (fun c2 => ?_) (fun c2 => ?_)
    · rw [if_pos c2] at H
      refine j_sub (lv' := [(0, vr x0)]) [0] rfl ?_
      exact tX6_meet_123   x0 h  H
    · rw [if_neg c2] at H
      refine j_aload_n (i := 0) (pc' := 16) dX6_meet_15 rfl rfl 0 rfl ?_
      obtain ⟨v3, e3, H⟩ := bs H
      refine j_getR (pc' := 19) dX6_meet_16 rfl fl_X6_22 e3 (fun r3 => ?_)
      refine j_iload_n (i := 2) (pc' := 20) dX6_meet_19 rfl rfl 2 rfl ?_
      refine j_iconst (pc' := 21) dX6_meet_20 rfl ?_
      obtain ⟨h4, e4, H⟩ := bs H
      refine j_iast (pc' := 22) dX6_meet_21 rfl ⟨by decide, by decide⟩ e4 ?_
      refine j_iconst (pc' := 23) dX6_meet_22 rfl ?_
      refine j_istore_n (i := 3) (lv' := [(0, vr x0), (1, vr x1), (2, vi x2), (3, vi 0)]) (pc' := 24) dX6_meet_23 rfl rfl (by decide) [1, 2, 3, 0] rfl ?_
      exact tX6_meet_24 _ ih FU x0 x1 x2 0 h4 rx2 ⟨by decide, by decide⟩ H
noncomputable def fX6_meet (a0 : Nat) (a1 : Nat) (h : Hp) : Option (Hp) :=
  (putV h 5 a0 1 (vi 0)).bind fun h1 => fX6_meet_7 FU a0 a1 0 h1
theorem tX6_meet {L : Nat} {xs : Nat → Int32} {l : Launch} {res : Hp} (a0 : Nat) (a1 : Nat) (h : Hp)  (H : fX6_meet a0 a1 h = some res) : J L xs l RX6 cX6_meet 4 false 1 (QV res) 0 0 0 (alv 0 [vr a0, vr a1]) [] h := by
  unfold fX6_meet at H
  show J L xs l RX6 cX6_meet 4 false 1 (QV res) 0 0 0 [(0, vr a0), (1, vr a1)] [] h
  refine j_aload_n (i := 0) (pc' := 1) dX6_meet_0 rfl rfl 0 rfl ?_
  refine j_iconst (pc' := 2) dX6_meet_1 rfl ?_
  obtain ⟨h1, e1, H⟩ := bs H
  refine j_putV (pc' := 5) dX6_meet_2 rfl fp_X6_15 tI ⟨by decide, by decide⟩ e1 ?_
  refine j_iconst (pc' := 6) dX6_meet_5 rfl ?_
  refine j_istore_n (i := 2) (lv' := [(0, vr a0), (1, vr a1), (2, vi 0)]) (pc' := 7) dX6_meet_6 rfl rfl (by decide) [1, 2, 0] rfl ?_
  exact tX6_meet_7   FU a0 a1 0 h1 ⟨by decide, by decide⟩ H
-- X7_restart
noncomputable def fX7_restart (a0 : Nat) (a1 : Int) (h : Hp) : Option (Hp) :=
  (putV h 6 a0 0 (vi a1)).bind fun h1 => (getR h1 6 a0 1).bind fun v2 => (fJ7_fill_53178 v2 0 h1).bind fun h3 => (getR h3 6 a0 2).bind fun v4 => (fJ7_fill_53178 v4 0 h3).bind fun h5 => (getR h5 6 a0 3).bind fun v6 => (fJ7_fill_53178 v6 0 h5).bind fun h7 => (getR h7 6 a0 4).bind fun v8 => (fJ7_fill_53178 v8 0 h7).bind fun h9 => (getR h9 6 a0 5).bind fun v10 => (cob h9 5 v10).bind fun _ => (fX6_allInOne v10 a1 h9).bind fun h12 => some h12
theorem tX7_restart {L : Nat} {xs : Nat → Int32} {l : Launch} {res : Hp} (a0 : Nat) (a1 : Int) (h : Hp) (ra1 : R32 a1) (H : fX7_restart a0 a1 h = some res) : J L xs l RX7 cX7_restart 2 false 3 (QV res) 0 0 0 (alv 0 [vr a0, vi a1]) [] h := by
  unfold fX7_restart at H
  show J L xs l RX7 cX7_restart 2 false 3 (QV res) 0 0 0 [(0, vr a0), (1, vi a1)] [] h
  refine j_aload_n (i := 0) (pc' := 1) dX7_restart_0 rfl rfl 0 rfl ?_
  refine j_iload_n (i := 1) (pc' := 2) dX7_restart_1 rfl rfl 1 rfl ?_
  obtain ⟨h1, e1, H⟩ := bs H
  refine j_putV (pc' := 5) dX7_restart_2 rfl fp_X7_9 tI ra1 e1 ?_
  refine j_aload_n (i := 0) (pc' := 6) dX7_restart_5 rfl rfl 0 rfl ?_
  obtain ⟨v2, e2, H⟩ := bs H
  refine j_getR (pc' := 9) dX7_restart_6 rfl fl_X7_15 e2 (fun r2 => ?_)
  refine j_iconst (pc' := 10) dX7_restart_9 rfl ?_
  obtain ⟨h3, e3, H⟩ := bs H
  refine j_cSv (y := yJ7_fill_53178) (dY := 1) (vs := [vr v2, vi 0]) (st := []) (pc' := 13) dX7_restart_10 rfl ymJ7_fill_53178 ysJ7_fill_53178 ml_X7_35 (by decide) rfl (Nat.le_of_ble_eq_true rfl) (Nat.le_of_ble_eq_true rfl) (tJ7_fill_53178 v2 0 h1 ⟨by decide, by decide⟩ e3) (fun z3 => ?_)
  refine j_aload_n (i := 0) (pc' := 14) dX7_restart_13 rfl rfl 0 rfl ?_
  obtain ⟨v4, e4, H⟩ := bs H
  refine j_getR (pc' := 17) dX7_restart_14 rfl fl_X7_19 e4 (fun r4 => ?_)
  refine j_iconst (pc' := 18) dX7_restart_17 rfl ?_
  obtain ⟨h5, e5, H⟩ := bs H
  refine j_cSv (y := yJ7_fill_53178) (dY := 1) (vs := [vr v4, vi 0]) (st := []) (pc' := 21) dX7_restart_18 rfl ymJ7_fill_53178 ysJ7_fill_53178 ml_X7_35 (by decide) rfl (Nat.le_of_ble_eq_true rfl) (Nat.le_of_ble_eq_true rfl) (tJ7_fill_53178 v4 0 h3 ⟨by decide, by decide⟩ e5) (fun z5 => ?_)
  refine j_aload_n (i := 0) (pc' := 22) dX7_restart_21 rfl rfl 0 rfl ?_
  obtain ⟨v6, e6, H⟩ := bs H
  refine j_getR (pc' := 25) dX7_restart_22 rfl fl_X7_22 e6 (fun r6 => ?_)
  refine j_iconst (pc' := 26) dX7_restart_25 rfl ?_
  obtain ⟨h7, e7, H⟩ := bs H
  refine j_cSv (y := yJ7_fill_53178) (dY := 1) (vs := [vr v6, vi 0]) (st := []) (pc' := 29) dX7_restart_26 rfl ymJ7_fill_53178 ysJ7_fill_53178 ml_X7_35 (by decide) rfl (Nat.le_of_ble_eq_true rfl) (Nat.le_of_ble_eq_true rfl) (tJ7_fill_53178 v6 0 h5 ⟨by decide, by decide⟩ e7) (fun z7 => ?_)
  refine j_aload_n (i := 0) (pc' := 30) dX7_restart_29 rfl rfl 0 rfl ?_
  obtain ⟨v8, e8, H⟩ := bs H
  refine j_getR (pc' := 33) dX7_restart_30 rfl fl_X7_25 e8 (fun r8 => ?_)
  refine j_iconst (pc' := 34) dX7_restart_33 rfl ?_
  obtain ⟨h9, e9, H⟩ := bs H
  refine j_cSv (y := yJ7_fill_53178) (dY := 1) (vs := [vr v8, vi 0]) (st := []) (pc' := 37) dX7_restart_34 rfl ymJ7_fill_53178 ysJ7_fill_53178 ml_X7_35 (by decide) rfl (Nat.le_of_ble_eq_true rfl) (Nat.le_of_ble_eq_true rfl) (tJ7_fill_53178 v8 0 h7 ⟨by decide, by decide⟩ e9) (fun z9 => ?_)
  refine j_aload_n (i := 0) (pc' := 38) dX7_restart_37 rfl rfl 0 rfl ?_
  obtain ⟨v10, e10, H⟩ := bs H
  refine j_getR (pc' := 41) dX7_restart_38 rfl fl_X7_31 e10 (fun r10 => ?_)
  refine j_iload_n (i := 1) (pc' := 42) dX7_restart_41 rfl rfl 1 rfl ?_
  obtain ⟨u11, e11, H⟩ := bs H
  obtain ⟨h12, e12, H⟩ := bs H
  refine j_cVv (y := yX6_allInOne) (dY := 2) (vs := [vi a1]) (st := []) (q := v10) (pc' := 45) dX7_restart_42 rfl ymX6_allInOne yvX6_allInOne ml_X7_41 (by decide) rfl (Nat.le_of_ble_eq_true rfl) (Nat.le_of_ble_eq_true rfl) e11 (tX6_allInOne v10 a1 h9 ra1 e12) (fun z12 => ?_)
  obtain rfl := Option.some.inj H
  exact j_vret dX7_restart_45 ⟨rfl, rfl⟩
-- X7_setQuarrel
noncomputable def fX7_setQuarrel (a0 : Nat) (a1 : Int) (a2 : Int) (a3 : Int) (a4 : Int) (h : Hp) : Option (Hp) :=
  (getR h 6 a0 3).bind fun v1 => (ast h 0 v1 ((a1 * 12) + a2) a3).bind fun h2 => (getR h2 6 a0 3).bind fun v3 => (ast h2 0 v3 ((a2 * 12) + a1) a3).bind fun h4 => (getR h4 6 a0 4).bind fun v5 => (ast h4 0 v5 ((a1 * 12) + a2) a4).bind fun h6 => (getR h6 6 a0 4).bind fun v7 => (ast h6 0 v7 ((a2 * 12) + a1) a4).bind fun h8 => some h8
theorem tX7_setQuarrel {L : Nat} {xs : Nat → Int32} {l : Launch} {res : Hp} (a0 : Nat) (a1 : Int) (a2 : Int) (a3 : Int) (a4 : Int) (h : Hp) (ra1 : R32 a1) (ra2 : R32 a2) (ra3 : R32 a3) (ra4 : R32 a4) (H : fX7_setQuarrel a0 a1 a2 a3 a4 h = some res) : J L xs l RX7 cX7_setQuarrel 5 false 1 (QV res) 0 0 0 (alv 0 [vr a0, vi a1, vi a2, vi a3, vi a4]) [] h := by
  unfold fX7_setQuarrel at H
  show J L xs l RX7 cX7_setQuarrel 5 false 1 (QV res) 0 0 0 [(0, vr a0), (1, vi a1), (2, vi a2), (3, vi a3), (4, vi a4)] [] h
  refine j_aload_n (i := 0) (pc' := 1) dX7_setQuarrel_0 rfl rfl 0 rfl ?_
  obtain ⟨v1, e1, H⟩ := bs H
  refine j_getR (pc' := 4) dX7_setQuarrel_1 rfl fl_X7_22 e1 (fun r1 => ?_)
  refine j_iload_n (i := 1) (pc' := 5) dX7_setQuarrel_4 rfl rfl 1 rfl ?_
  refine j_bipush (pc' := 7) dX7_setQuarrel_5 rfl (by decide +kernel) ?_
  refine j_imul (pc' := 8) dX7_setQuarrel_7 rfl ?_
  refine j_iload_n (i := 2) (pc' := 9) dX7_setQuarrel_8 rfl rfl 2 rfl ?_
  refine j_iadd (pc' := 10) dX7_setQuarrel_9 rfl ?_
  refine j_iload_n (i := 3) (pc' := 11) dX7_setQuarrel_10 rfl rfl 3 rfl ?_
  obtain ⟨h2, e2, H⟩ := bs H
  refine j_iast (pc' := 12) dX7_setQuarrel_11 rfl ra3 e2 ?_
  refine j_aload_n (i := 0) (pc' := 13) dX7_setQuarrel_12 rfl rfl 0 rfl ?_
  obtain ⟨v3, e3, H⟩ := bs H
  refine j_getR (pc' := 16) dX7_setQuarrel_13 rfl fl_X7_22 e3 (fun r3 => ?_)
  refine j_iload_n (i := 2) (pc' := 17) dX7_setQuarrel_16 rfl rfl 2 rfl ?_
  refine j_bipush (pc' := 19) dX7_setQuarrel_17 rfl (by decide +kernel) ?_
  refine j_imul (pc' := 20) dX7_setQuarrel_19 rfl ?_
  refine j_iload_n (i := 1) (pc' := 21) dX7_setQuarrel_20 rfl rfl 1 rfl ?_
  refine j_iadd (pc' := 22) dX7_setQuarrel_21 rfl ?_
  refine j_iload_n (i := 3) (pc' := 23) dX7_setQuarrel_22 rfl rfl 3 rfl ?_
  obtain ⟨h4, e4, H⟩ := bs H
  refine j_iast (pc' := 24) dX7_setQuarrel_23 rfl ra3 e4 ?_
  refine j_aload_n (i := 0) (pc' := 25) dX7_setQuarrel_24 rfl rfl 0 rfl ?_
  obtain ⟨v5, e5, H⟩ := bs H
  refine j_getR (pc' := 28) dX7_setQuarrel_25 rfl fl_X7_25 e5 (fun r5 => ?_)
  refine j_iload_n (i := 1) (pc' := 29) dX7_setQuarrel_28 rfl rfl 1 rfl ?_
  refine j_bipush (pc' := 31) dX7_setQuarrel_29 rfl (by decide +kernel) ?_
  refine j_imul (pc' := 32) dX7_setQuarrel_31 rfl ?_
  refine j_iload_n (i := 2) (pc' := 33) dX7_setQuarrel_32 rfl rfl 2 rfl ?_
  refine j_iadd (pc' := 34) dX7_setQuarrel_33 rfl ?_
  refine j_iload (pc' := 36) dX7_setQuarrel_34 rfl 4 rfl ?_
  obtain ⟨h6, e6, H⟩ := bs H
  refine j_iast (pc' := 37) dX7_setQuarrel_36 rfl ra4 e6 ?_
  refine j_aload_n (i := 0) (pc' := 38) dX7_setQuarrel_37 rfl rfl 0 rfl ?_
  obtain ⟨v7, e7, H⟩ := bs H
  refine j_getR (pc' := 41) dX7_setQuarrel_38 rfl fl_X7_25 e7 (fun r7 => ?_)
  refine j_iload_n (i := 2) (pc' := 42) dX7_setQuarrel_41 rfl rfl 2 rfl ?_
  refine j_bipush (pc' := 44) dX7_setQuarrel_42 rfl (by decide +kernel) ?_
  refine j_imul (pc' := 45) dX7_setQuarrel_44 rfl ?_
  refine j_iload_n (i := 1) (pc' := 46) dX7_setQuarrel_45 rfl rfl 1 rfl ?_
  refine j_iadd (pc' := 47) dX7_setQuarrel_46 rfl ?_
  refine j_iload (pc' := 49) dX7_setQuarrel_47 rfl 4 rfl ?_
  obtain ⟨h8, e8, H⟩ := bs H
  refine j_iast (pc' := 50) dX7_setQuarrel_49 rfl ra4 e8 ?_
  obtain rfl := Option.some.inj H
  exact j_vret dX7_setQuarrel_50 ⟨rfl, rfl⟩
-- X7_gapOf
noncomputable def fX7_gapOf_87 (x4 : Int) (h : Hp) : Option (Int × Hp) :=
  some (x4, h)
theorem tX7_gapOf_87 {L : Nat} {xs : Nat → Int32} {l : Launch} {res : Int × Hp} (x4 : Int) (h : Hp) (rx4 : R32 x4) (H : fX7_gapOf_87 x4 h = some res) : J L xs l RX7 cX7_gapOf 7 false 1 (QI res) 0 0 87 [(4, vi x4)] [] h := by
  unfold fX7_gapOf_87 at H
  refine j_iload (pc' := 89) dX7_gapOf_87 rfl 0 rfl ?_
  obtain rfl := Option.some.inj H
  exact j_iret dX7_gapOf_89 rx4 ⟨rfl, rfl⟩
noncomputable def fX7_gapOf_81 (k6 : Nat → Int → Int → Int → Int → Int → Hp → Option (Int × Hp)) (x0 : Nat) (x1 : Int) (x2 : Int) (x3 : Int) (x4 : Int) (x5 : Int) (h : Hp) : Option (Int × Hp) :=
  (c32 (x5 + 1)).bind fun _ => k6 x0 x1 x2 x3 x4 (x5 + 1) h
theorem tX7_gapOf_81 {L : Nat} {xs : Nat → Int32} {l : Launch} {res : Int × Hp} (k6 : Nat → Int → Int → Int → Int → Int → Hp → Option (Int × Hp)) (hk6 : ∀ (x0 : Nat) (x1 : Int) (x2 : Int) (x3 : Int) (x4 : Int) (x5 : Int) (h : Hp), R32 x1 → R32 x2 → R32 x3 → R32 x4 → R32 x5 → k6 x0 x1 x2 x3 x4 x5 h = some res → J L xs l RX7 cX7_gapOf 7 false 1 (QI res) 0 0 6 [(0, vr x0), (1, vi x1), (2, vi x2), (3, vi x3), (4, vi x4), (5, vi x5)] [] h) (x0 : Nat) (x1 : Int) (x2 : Int) (x3 : Int) (x4 : Int) (x5 : Int) (h : Hp) (rx1 : R32 x1) (rx2 : R32 x2) (rx3 : R32 x3) (rx4 : R32 x4) (rx5 : R32 x5) (H : fX7_gapOf_81 k6 x0 x1 x2 x3 x4 x5 h = some res) : J L xs l RX7 cX7_gapOf 7 false 1 (QI res) 0 0 81 [(0, vr x0), (1, vi x1), (2, vi x2), (3, vi x3), (4, vi x4), (5, vi x5)] [] h := by
  unfold fX7_gapOf_81 at H
  obtain ⟨u1, e1, H⟩ := bs H
  have r1 := c32_R e1
  refine j_iinc (k0 := 5) (lv' := [(0, vr x0), (1, vi x1), (2, vi x2), (3, vi x3), (4, vi x4), (5, vi (x5 + 1))]) (pc' := 84) dX7_gapOf_81 rfl rfl (by decide) [1, 2, 3, 4, 5, 0] rfl ?_
  refine j_goto (tgt := 6) dX7_gapOf_84 (by decide) ?_
  exact hk6 x0 x1 x2 x3 x4 (x5 + 1) h rx1 rx2 rx3 rx4 r1 H
noncomputable def fX7_gapOf_6 : Nat → Nat → Int → Int → Int → Int → Int → Hp → Option (Int × Hp)
  | 0, _, _, _, _, _, _, _ => none
  | n + 1, x0, x1, x2, x3, x4, x5, h => if 4 ≤ x5 then (fX7_gapOf_87 x4 h) else ((getR h 6 x0 1).bind fun v2 => (ald h 0 v2 ((x1 * 4) + x5)).bind fun v3 => (getR h 6 x0 1).bind fun v4 => (ald h 0 v4 ((x2 * 4) + x5)).bind fun v5 => (c32 (v3 - v5)).bind fun _ => (c32 (max (v3 - v5) (-(v3 - v5)))).bind fun _ => if x3 = 0 then ((c32 (x4 + (max (v3 - v5) (-(v3 - v5))))).bind fun _ => fX7_gapOf_81 (fX7_gapOf_6 n) x0 x1 x2 x3 (x4 + (max (v3 - v5) (-(v3 - v5)))) x5 h) else (if x3 = 1 then (fX7_gapOf_81 (fX7_gapOf_6 n) x0 x1 x2 x3 (max x4 (max (v3 - v5) (-(v3 - v5)))) x5 h) else ((c32 (x4 + ((max (v3 - v5) (-(v3 - v5))) * (max (v3 - v5) (-(v3 - v5)))))).bind fun _ => fX7_gapOf_81 (fX7_gapOf_6 n) x0 x1 x2 x3 (x4 + ((max (v3 - v5) (-(v3 - v5))) * (max (v3 - v5) (-(v3 - v5))))) x5 h)))
theorem tX7_gapOf_6 {L : Nat} {xs : Nat → Int32} {l : Launch} {res : Int × Hp} : ∀ (n : Nat) (x0 : Nat) (x1 : Int) (x2 : Int) (x3 : Int) (x4 : Int) (x5 : Int) (h : Hp), R32 x1 → R32 x2 → R32 x3 → R32 x4 → R32 x5 → fX7_gapOf_6 n x0 x1 x2 x3 x4 x5 h = some res → J L xs l RX7 cX7_gapOf 7 false 1 (QI res) 0 0 6 [(0, vr x0), (1, vi x1), (2, vi x2), (3, vi x3), (4, vi x4), (5, vi x5)] [] h := by
  intro n
  induction n with
  | zero => intro x0 x1 x2 x3 x4 x5 h rx1 rx2 rx3 rx4 rx5 H; cases H
  | succ n ih =>
    intro x0 x1 x2 x3 x4 x5 h rx1 rx2 rx3 rx4 rx5 H
    rw [fX7_gapOf_6] at H
    refine j_iload (pc' := 8) dX7_gapOf_6 rfl 5 rfl ?_
    refine j_iconst (pc' := 9) dX7_gapOf_8 rfl ?_
    refine j_icmp_ge (tgt := 87) (pc' := 12) dX7_gapOf_9 (by decide) rfl rx5 ⟨by decide, by decide⟩ (fun c1 => ?_) (fun c1 => ?_)
    · rw [if_pos c1] at H
      refine j_sub (lv' := [(4, vi x4)]) [4] rfl ?_
      exact tX7_gapOf_87   x4 h rx4 H
    · rw [if_neg c1] at H
      refine j_aload_n (i := 0) (pc' := 13) dX7_gapOf_12 rfl rfl 0 rfl ?_
      obtain ⟨v2, e2, H⟩ := bs H
      refine j_getR (pc' := 16) dX7_gapOf_13 rfl fl_X7_15 e2 (fun r2 => ?_)
      refine j_iload_n (i := 1) (pc' := 17) dX7_gapOf_16 rfl rfl 1 rfl ?_
      refine j_iconst (pc' := 18) dX7_gapOf_17 rfl ?_
      refine j_imul (pc' := 19) dX7_gapOf_18 rfl ?_
      refine j_iload (pc' := 21) dX7_gapOf_19 rfl 5 rfl ?_
      refine j_iadd (pc' := 22) dX7_gapOf_21 rfl ?_
      obtain ⟨v3, e3, H⟩ := bs H
      refine j_iald (pc' := 23) dX7_gapOf_22 rfl e3 (fun r3 => ?_)
      refine j_aload_n (i := 0) (pc' := 24) dX7_gapOf_23 rfl rfl 0 rfl ?_
      obtain ⟨v4, e4, H⟩ := bs H
      refine j_getR (pc' := 27) dX7_gapOf_24 rfl fl_X7_15 e4 (fun r4 => ?_)
      refine j_iload_n (i := 2) (pc' := 28) dX7_gapOf_27 rfl rfl 2 rfl ?_
      refine j_iconst (pc' := 29) dX7_gapOf_28 rfl ?_
      refine j_imul (pc' := 30) dX7_gapOf_29 rfl ?_
      refine j_iload (pc' := 32) dX7_gapOf_30 rfl 5 rfl ?_
      refine j_iadd (pc' := 33) dX7_gapOf_32 rfl ?_
      obtain ⟨v5, e5, H⟩ := bs H
      refine j_iald (pc' := 34) dX7_gapOf_33 rfl e5 (fun r5 => ?_)
      refine j_isub (pc' := 35) dX7_gapOf_34 rfl ?_
      obtain ⟨u6, e6, H⟩ := bs H
      have r6 := c32_R e6
      refine j_mabs (pc' := 38) dX7_gapOf_35 rfl ml_X7_62 (by decide) (Nat.le_of_ble_eq_true rfl) r6 ?_
      obtain ⟨u7, e7, H⟩ := bs H
      have r7 := c32_R e7
      refine j_istore (lv' := [(0, vr x0), (1, vi x1), (2, vi x2), (3, vi x3), (4, vi x4), (5, vi x5), (6, vi (max (v3 - v5) (-(v3 - v5))))]) (pc' := 40) dX7_gapOf_38 rfl (by decide) [1, 2, 3, 4, 5, 6, 0] rfl ?_
      refine j_iload_n (i := 3) (pc' := 41) dX7_gapOf_40 rfl rfl 3 rfl ?_
      refine j_if_ne (tgt := 54) (pc' := 44) dX7_gapOf_41 (by decide) rfl rx3 (fun c8 => ?_) (fun c8 => ?_)
      · rw [if_neg c8] at H
        refine j_iload_n (i := 3) (pc' := 55) dX7_gapOf_54 rfl rfl 3 rfl ?_
        refine j_iconst (pc' := 56) dX7_gapOf_55 rfl ?_
        refine j_icmp_ne (tgt := 71) (pc' := 59) dX7_gapOf_56 (by decide) rfl rx3 ⟨by decide, by decide⟩ (fun c9 => ?_) (fun c9 => ?_)
        · rw [if_neg c9] at H
          refine j_iload (pc' := 73) dX7_gapOf_71 rfl 4 rfl ?_
          refine j_iload (pc' := 75) dX7_gapOf_73 rfl 6 rfl ?_
          refine j_iload (pc' := 77) dX7_gapOf_75 rfl 6 rfl ?_
          refine j_imul (pc' := 78) dX7_gapOf_77 rfl ?_
          refine j_iadd (pc' := 79) dX7_gapOf_78 rfl ?_
          obtain ⟨u10, e10, H⟩ := bs H
          have r10 := c32_R e10
          refine j_istore (lv' := [(0, vr x0), (1, vi x1), (2, vi x2), (3, vi x3), (4, vi (x4 + ((max (v3 - v5) (-(v3 - v5))) * (max (v3 - v5) (-(v3 - v5)))))), (5, vi x5), (6, vi (max (v3 - v5) (-(v3 - v5))))]) (pc' := 81) dX7_gapOf_79 rfl (by decide) [1, 2, 3, 4, 0, 5, 6] rfl ?_
          refine j_sub (lv' := [(0, vr x0), (1, vi x1), (2, vi x2), (3, vi x3), (4, vi (x4 + ((max (v3 - v5) (-(v3 - v5))) * (max (v3 - v5) (-(v3 - v5)))))), (5, vi x5)]) [0, 1, 2, 3, 4, 5] rfl ?_
          exact tX7_gapOf_81 _ ih x0 x1 x2 x3 (x4 + ((max (v3 - v5) (-(v3 - v5))) * (max (v3 - v5) (-(v3 - v5))))) x5 h rx1 rx2 rx3 r10 rx5 H
        · rw [if_pos c9] at H
          refine j_iload (pc' := 61) dX7_gapOf_59 rfl 4 rfl ?_
          refine j_iload (pc' := 63) dX7_gapOf_61 rfl 6 rfl ?_
          refine j_mmax (pc' := 66) dX7_gapOf_63 rfl ml_X7_68 (by decide) (Nat.le_of_ble_eq_true rfl) rx4 r7 ?_
          refine j_istore (lv' := [(0, vr x0), (1, vi x1), (2, vi x2), (3, vi x3), (4, vi (max x4 (max (v3 - v5) (-(v3 - v5))))), (5, vi x5), (6, vi (max (v3 - v5) (-(v3 - v5))))]) (pc' := 68) dX7_gapOf_66 rfl (by decide) [1, 2, 3, 4, 0, 5, 6] rfl ?_
          refine j_goto (tgt := 81) dX7_gapOf_68 (by decide) ?_
          refine j_sub (lv' := [(0, vr x0), (1, vi x1), (2, vi x2), (3, vi x3), (4, vi (max x4 (max (v3 - v5) (-(v3 - v5))))), (5, vi x5)]) [0, 1, 2, 3, 4, 5] rfl ?_
          exact tX7_gapOf_81 _ ih x0 x1 x2 x3 (max x4 (max (v3 - v5) (-(v3 - v5)))) x5 h rx1 rx2 rx3 (R32_max rx4 r7) rx5 H
      · rw [if_pos c8] at H
        refine j_iload (pc' := 46) dX7_gapOf_44 rfl 4 rfl ?_
        refine j_iload (pc' := 48) dX7_gapOf_46 rfl 6 rfl ?_
        refine j_iadd (pc' := 49) dX7_gapOf_48 rfl ?_
        obtain ⟨u11, e11, H⟩ := bs H
        have r11 := c32_R e11
        refine j_istore (lv' := [(0, vr x0), (1, vi x1), (2, vi x2), (3, vi x3), (4, vi (x4 + (max (v3 - v5) (-(v3 - v5))))), (5, vi x5), (6, vi (max (v3 - v5) (-(v3 - v5))))]) (pc' := 51) dX7_gapOf_49 rfl (by decide) [1, 2, 3, 4, 0, 5, 6] rfl ?_
        refine j_goto (tgt := 81) dX7_gapOf_51 (by decide) ?_
        refine j_sub (lv' := [(0, vr x0), (1, vi x1), (2, vi x2), (3, vi x3), (4, vi (x4 + (max (v3 - v5) (-(v3 - v5))))), (5, vi x5)]) [0, 1, 2, 3, 4, 5] rfl ?_
        exact tX7_gapOf_81 _ ih x0 x1 x2 x3 (x4 + (max (v3 - v5) (-(v3 - v5)))) x5 h rx1 rx2 rx3 r11 rx5 H
noncomputable def fX7_gapOf (a0 : Nat) (a1 : Int) (a2 : Int) (a3 : Int) (h : Hp) : Option (Int × Hp) :=
  fX7_gapOf_6 FU a0 a1 a2 a3 0 0 h
theorem tX7_gapOf {L : Nat} {xs : Nat → Int32} {l : Launch} {res : Int × Hp} (a0 : Nat) (a1 : Int) (a2 : Int) (a3 : Int) (h : Hp) (ra1 : R32 a1) (ra2 : R32 a2) (ra3 : R32 a3) (H : fX7_gapOf a0 a1 a2 a3 h = some res) : J L xs l RX7 cX7_gapOf 7 false 1 (QI res) 0 0 0 (alv 0 [vr a0, vi a1, vi a2, vi a3]) [] h := by
  unfold fX7_gapOf at H
  show J L xs l RX7 cX7_gapOf 7 false 1 (QI res) 0 0 0 [(0, vr a0), (1, vi a1), (2, vi a2), (3, vi a3)] [] h
  refine j_iconst (pc' := 1) dX7_gapOf_0 rfl ?_
  refine j_istore (lv' := [(0, vr a0), (1, vi a1), (2, vi a2), (3, vi a3), (4, vi 0)]) (pc' := 3) dX7_gapOf_1 rfl (by decide) [1, 2, 3, 4, 0] rfl ?_
  refine j_iconst (pc' := 4) dX7_gapOf_3 rfl ?_
  refine j_istore (lv' := [(0, vr a0), (1, vi a1), (2, vi a2), (3, vi a3), (4, vi 0), (5, vi 0)]) (pc' := 6) dX7_gapOf_4 rfl (by decide) [1, 2, 3, 4, 5, 0] rfl ?_
  exact tX7_gapOf_6   FU a0 a1 a2 a3 0 0 h ra1 ra2 ra3 ⟨by decide, by decide⟩ ⟨by decide, by decide⟩ H
-- X7_wayToCentre
noncomputable def fX7_wayToCentre (a0 : Nat) (a1 : Int) (h : Hp) : Option (Int × Hp) :=
  (getR h 6 a0 5).bind fun v1 => (getR h 5 v1 2).bind fun v2 => (ald h 0 v2 a1).bind fun v3 => (cob h 6 a0).bind fun _ => (fX7_wayOf a0 a1 v3 h).bind fun p5 => some (p5.1, p5.2)
theorem tX7_wayToCentre {L : Nat} {xs : Nat → Int32} {l : Launch} {res : Int × Hp} (a0 : Nat) (a1 : Int) (h : Hp) (ra1 : R32 a1) (H : fX7_wayToCentre a0 a1 h = some res) : J L xs l RX7 cX7_wayToCentre 2 false 2 (QI res) 0 0 0 (alv 0 [vr a0, vi a1]) [] h := by
  unfold fX7_wayToCentre at H
  show J L xs l RX7 cX7_wayToCentre 2 false 2 (QI res) 0 0 0 [(0, vr a0), (1, vi a1)] [] h
  refine j_aload_n (i := 0) (pc' := 1) dX7_wayToCentre_0 rfl rfl 0 rfl ?_
  refine j_iload_n (i := 1) (pc' := 2) dX7_wayToCentre_1 rfl rfl 1 rfl ?_
  refine j_aload_n (i := 0) (pc' := 3) dX7_wayToCentre_2 rfl rfl 0 rfl ?_
  obtain ⟨v1, e1, H⟩ := bs H
  refine j_getR (pc' := 6) dX7_wayToCentre_3 rfl fl_X7_31 e1 (fun r1 => ?_)
  obtain ⟨v2, e2, H⟩ := bs H
  refine j_getR (pc' := 9) dX7_wayToCentre_6 rfl fl_X7_71 e2 (fun r2 => ?_)
  refine j_iload_n (i := 1) (pc' := 10) dX7_wayToCentre_9 rfl rfl 1 rfl ?_
  obtain ⟨v3, e3, H⟩ := bs H
  refine j_iald (pc' := 11) dX7_wayToCentre_10 rfl e3 (fun r3 => ?_)
  obtain ⟨u4, e4, H⟩ := bs H
  obtain ⟨p5, e5, H⟩ := bs H
  refine j_cVi (y := yX7_wayOf) (dY := 1) (vs := [vi a1, vi v3]) (st := []) (q := a0) (pc' := 14) dX7_wayToCentre_11 rfl ymX7_wayOf yvX7_wayOf ml_X7_87 (by decide) rfl (Nat.le_of_ble_eq_true rfl) (Nat.le_of_ble_eq_true rfl) e4 (tX7_wayOf a0 a1 v3 h ra1 r3 e5) (fun r5 z5 => ?_)
  obtain rfl := Option.some.inj H
  exact j_iret dX7_wayToCentre_14 r5 ⟨rfl, rfl⟩
-- X7_farthestFromCentre
noncomputable def fX7_farthestFromCentre_33 (x1 : Int) (h : Hp) : Option (Int × Hp) :=
  some (x1, h)
theorem tX7_farthestFromCentre_33 {L : Nat} {xs : Nat → Int32} {l : Launch} {res : Int × Hp} (x1 : Int) (h : Hp) (rx1 : R32 x1) (H : fX7_farthestFromCentre_33 x1 h = some res) : J L xs l RX7 cX7_farthestFromCentre 3 false 3 (QI res) 0 0 33 [(1, vi x1)] [] h := by
  unfold fX7_farthestFromCentre_33 at H
  refine j_iload_n (i := 1) (pc' := 34) dX7_farthestFromCentre_33 rfl rfl 0 rfl ?_
  obtain rfl := Option.some.inj H
  exact j_iret dX7_farthestFromCentre_34 rx1 ⟨rfl, rfl⟩
noncomputable def fX7_farthestFromCentre_27 (k4 : Nat → Int → Int → Hp → Option (Int × Hp)) (x0 : Nat) (x1 : Int) (x2 : Int) (h : Hp) : Option (Int × Hp) :=
  (c32 (x2 + 1)).bind fun _ => k4 x0 x1 (x2 + 1) h
theorem tX7_farthestFromCentre_27 {L : Nat} {xs : Nat → Int32} {l : Launch} {res : Int × Hp} (k4 : Nat → Int → Int → Hp → Option (Int × Hp)) (hk4 : ∀ (x0 : Nat) (x1 : Int) (x2 : Int) (h : Hp), R32 x1 → R32 x2 → k4 x0 x1 x2 h = some res → J L xs l RX7 cX7_farthestFromCentre 3 false 3 (QI res) 0 0 4 [(0, vr x0), (1, vi x1), (2, vi x2)] [] h) (x0 : Nat) (x1 : Int) (x2 : Int) (h : Hp) (rx1 : R32 x1) (rx2 : R32 x2) (H : fX7_farthestFromCentre_27 k4 x0 x1 x2 h = some res) : J L xs l RX7 cX7_farthestFromCentre 3 false 3 (QI res) 0 0 27 [(0, vr x0), (1, vi x1), (2, vi x2)] [] h := by
  unfold fX7_farthestFromCentre_27 at H
  obtain ⟨u1, e1, H⟩ := bs H
  have r1 := c32_R e1
  refine j_iinc (k0 := 2) (lv' := [(0, vr x0), (1, vi x1), (2, vi (x2 + 1))]) (pc' := 30) dX7_farthestFromCentre_27 rfl rfl (by decide) [1, 2, 0] rfl ?_
  refine j_goto (tgt := 4) dX7_farthestFromCentre_30 (by decide) ?_
  exact hk4 x0 x1 (x2 + 1) h rx1 r1 H
noncomputable def fX7_farthestFromCentre_4 : Nat → Nat → Int → Int → Hp → Option (Int × Hp)
  | 0, _, _, _, _ => none
  | n + 1, x0, x1, x2, h => (getI h 6 x0 0).bind fun v1 => if v1 ≤ x2 then (fX7_farthestFromCentre_33 x1 h) else ((cob h 6 x0).bind fun _ => (fX7_wayToCentre x0 x2 h).bind fun p4 => (cob p4.2 6 x0).bind fun _ => (fX7_wayToCentre x0 x1 p4.2).bind fun p6 => if p4.1 ≤ p6.1 then (fX7_farthestFromCentre_27 (fX7_farthestFromCentre_4 n) x0 x1 x2 p6.2) else (fX7_farthestFromCentre_27 (fX7_farthestFromCentre_4 n) x0 x2 x2 p6.2))
theorem tX7_farthestFromCentre_4 {L : Nat} {xs : Nat → Int32} {l : Launch} {res : Int × Hp} : ∀ (n : Nat) (x0 : Nat) (x1 : Int) (x2 : Int) (h : Hp), R32 x1 → R32 x2 → fX7_farthestFromCentre_4 n x0 x1 x2 h = some res → J L xs l RX7 cX7_farthestFromCentre 3 false 3 (QI res) 0 0 4 [(0, vr x0), (1, vi x1), (2, vi x2)] [] h := by
  intro n
  induction n with
  | zero => intro x0 x1 x2 h rx1 rx2 H; cases H
  | succ n ih =>
    intro x0 x1 x2 h rx1 rx2 H
    rw [fX7_farthestFromCentre_4] at H
    refine j_iload_n (i := 2) (pc' := 5) dX7_farthestFromCentre_4 rfl rfl 2 rfl ?_
    refine j_aload_n (i := 0) (pc' := 6) dX7_farthestFromCentre_5 rfl rfl 0 rfl ?_
    obtain ⟨v1, e1, H⟩ := bs H
    refine j_getI (pc' := 9) dX7_farthestFromCentre_6 rfl fl_X7_9 e1 (fun r1 => ?_)
    refine j_icmp_ge (tgt := 33) (pc' := 12) dX7_farthestFromCentre_9 (by decide) rfl rx2 r1 (fun c2 => ?_) (fun c2 => ?_)
    · rw [if_pos c2] at H
      refine j_sub (lv' := [(1, vi x1)]) [1] rfl ?_
      exact tX7_farthestFromCentre_33   x1 h rx1 H
    · rw [if_neg c2] at H
      refine j_aload_n (i := 0) (pc' := 13) dX7_farthestFromCentre_12 rfl rfl 0 rfl ?_
      refine j_iload_n (i := 2) (pc' := 14) dX7_farthestFromCentre_13 rfl rfl 2 rfl ?_
      obtain ⟨u3, e3, H⟩ := bs H
      obtain ⟨p4, e4, H⟩ := bs H
      refine j_cVi (y := yX7_wayToCentre) (dY := 2) (vs := [vi x2]) (st := []) (q := x0) (pc' := 17) dX7_farthestFromCentre_14 rfl ymX7_wayToCentre yvX7_wayToCentre ml_X7_81 (by decide) rfl (Nat.le_of_ble_eq_true rfl) (Nat.le_of_ble_eq_true rfl) e3 (tX7_wayToCentre x0 x2 h rx2 e4) (fun r4 z4 => ?_)
      refine j_aload_n (i := 0) (pc' := 18) dX7_farthestFromCentre_17 rfl rfl 0 rfl ?_
      refine j_iload_n (i := 1) (pc' := 19) dX7_farthestFromCentre_18 rfl rfl 1 rfl ?_
      obtain ⟨u5, e5, H⟩ := bs H
      obtain ⟨p6, e6, H⟩ := bs H
      refine j_cVi (y := yX7_wayToCentre) (dY := 2) (vs := [vi x1]) (st := [vi p4.1]) (q := x0) (pc' := 22) dX7_farthestFromCentre_19 rfl ymX7_wayToCentre yvX7_wayToCentre ml_X7_81 (by decide) rfl (Nat.le_of_ble_eq_true rfl) (Nat.le_of_ble_eq_true rfl) e5 (tX7_wayToCentre x0 x1 p4.2 rx1 e6) (fun r6 z6 => ?_)
      refine j_icmp_le (tgt := 27) (pc' := 25) dX7_farthestFromCentre_22 (by decide) rfl r4 r6 (fun c7 => ?_) (fun c7 => ?_)
      · rw [if_pos c7] at H
        exact tX7_farthestFromCentre_27 _ ih x0 x1 x2 p6.2 rx1 rx2 H
      · rw [if_neg c7] at H
        refine j_iload_n (i := 2) (pc' := 26) dX7_farthestFromCentre_25 rfl rfl 2 rfl ?_
        refine j_istore_n (i := 1) (lv' := [(0, vr x0), (1, vi x2), (2, vi x2)]) (pc' := 27) dX7_farthestFromCentre_26 rfl rfl (by decide) [1, 0, 2] rfl ?_
        exact tX7_farthestFromCentre_27 _ ih x0 x2 x2 p6.2 rx2 rx2 H
noncomputable def fX7_farthestFromCentre (a0 : Nat) (h : Hp) : Option (Int × Hp) :=
  fX7_farthestFromCentre_4 FU a0 0 1 h
theorem tX7_farthestFromCentre {L : Nat} {xs : Nat → Int32} {l : Launch} {res : Int × Hp} (a0 : Nat) (h : Hp)  (H : fX7_farthestFromCentre a0 h = some res) : J L xs l RX7 cX7_farthestFromCentre 3 false 3 (QI res) 0 0 0 (alv 0 [vr a0]) [] h := by
  unfold fX7_farthestFromCentre at H
  show J L xs l RX7 cX7_farthestFromCentre 3 false 3 (QI res) 0 0 0 [(0, vr a0)] [] h
  refine j_iconst (pc' := 1) dX7_farthestFromCentre_0 rfl ?_
  refine j_istore_n (i := 1) (lv' := [(0, vr a0), (1, vi 0)]) (pc' := 2) dX7_farthestFromCentre_1 rfl rfl (by decide) [1, 0] rfl ?_
  refine j_iconst (pc' := 3) dX7_farthestFromCentre_2 rfl ?_
  refine j_istore_n (i := 2) (lv' := [(0, vr a0), (1, vi 0), (2, vi 1)]) (pc' := 4) dX7_farthestFromCentre_3 rfl rfl (by decide) [1, 2, 0] rfl ?_
  exact tX7_farthestFromCentre_4   FU a0 0 1 h ⟨by decide, by decide⟩ ⟨by decide, by decide⟩ H
-- X7_gatherNearer
noncomputable def fX7_gatherNearer_40  (h : Hp) : Option (Hp) :=
  some h
theorem tX7_gatherNearer_40 {L : Nat} {xs : Nat → Int32} {l : Launch} {res : Hp}  (h : Hp)  (H : fX7_gatherNearer_40  h = some res) : J L xs l RX7 cX7_gatherNearer 3 false 3 (QV res) 0 0 40 [] [] h := by
  unfold fX7_gatherNearer_40 at H
  obtain rfl := Option.some.inj H
  exact j_vret dX7_gatherNearer_40 ⟨rfl, rfl⟩
noncomputable def fX7_gatherNearer_34 (k2 : Nat → Int → Int → Hp → Option (Hp)) (x0 : Nat) (x1 : Int) (x2 : Int) (h : Hp) : Option (Hp) :=
  (c32 (x2 + 1)).bind fun _ => k2 x0 x1 (x2 + 1) h
theorem tX7_gatherNearer_34 {L : Nat} {xs : Nat → Int32} {l : Launch} {res : Hp} (k2 : Nat → Int → Int → Hp → Option (Hp)) (hk2 : ∀ (x0 : Nat) (x1 : Int) (x2 : Int) (h : Hp), R32 x1 → R32 x2 → k2 x0 x1 x2 h = some res → J L xs l RX7 cX7_gatherNearer 3 false 3 (QV res) 0 0 2 [(0, vr x0), (1, vi x1), (2, vi x2)] [] h) (x0 : Nat) (x1 : Int) (x2 : Int) (h : Hp) (rx1 : R32 x1) (rx2 : R32 x2) (H : fX7_gatherNearer_34 k2 x0 x1 x2 h = some res) : J L xs l RX7 cX7_gatherNearer 3 false 3 (QV res) 0 0 34 [(0, vr x0), (1, vi x1), (2, vi x2)] [] h := by
  unfold fX7_gatherNearer_34 at H
  obtain ⟨u1, e1, H⟩ := bs H
  have r1 := c32_R e1
  refine j_iinc (k0 := 2) (lv' := [(0, vr x0), (1, vi x1), (2, vi (x2 + 1))]) (pc' := 37) dX7_gatherNearer_34 rfl rfl (by decide) [1, 2, 0] rfl ?_
  refine j_goto (tgt := 2) dX7_gatherNearer_37 (by decide) ?_
  exact hk2 x0 x1 (x2 + 1) h rx1 r1 H
noncomputable def fX7_gatherNearer_2 : Nat → Nat → Int → Int → Hp → Option (Hp)
  | 0, _, _, _, _ => none
  | n + 1, x0, x1, x2, h => (getI h 6 x0 0).bind fun v1 => if v1 ≤ x2 then (fX7_gatherNearer_40 h) else ((cob h 6 x0).bind fun _ => (fX7_wayOf x0 x2 x1 h).bind fun p4 => (cob p4.2 6 x0).bind fun _ => (fX7_wayToCentre x0 x2 p4.2).bind fun p6 => if p6.1 ≤ p4.1 then (fX7_gatherNearer_34 (fX7_gatherNearer_2 n) x0 x1 x2 p6.2) else ((getR p6.2 6 x0 5).bind fun v8 => (getR p6.2 5 v8 2).bind fun v9 => (ast p6.2 0 v9 x2 x1).bind fun h10 => fX7_gatherNearer_34 (fX7_gatherNearer_2 n) x0 x1 x2 h10))
theorem tX7_gatherNearer_2 {L : Nat} {xs : Nat → Int32} {l : Launch} {res : Hp} : ∀ (n : Nat) (x0 : Nat) (x1 : Int) (x2 : Int) (h : Hp), R32 x1 → R32 x2 → fX7_gatherNearer_2 n x0 x1 x2 h = some res → J L xs l RX7 cX7_gatherNearer 3 false 3 (QV res) 0 0 2 [(0, vr x0), (1, vi x1), (2, vi x2)] [] h := by
  intro n
  induction n with
  | zero => intro x0 x1 x2 h rx1 rx2 H; cases H
  | succ n ih =>
    intro x0 x1 x2 h rx1 rx2 H
    rw [fX7_gatherNearer_2] at H
    refine j_iload_n (i := 2) (pc' := 3) dX7_gatherNearer_2 rfl rfl 2 rfl ?_
    refine j_aload_n (i := 0) (pc' := 4) dX7_gatherNearer_3 rfl rfl 0 rfl ?_
    obtain ⟨v1, e1, H⟩ := bs H
    refine j_getI (pc' := 7) dX7_gatherNearer_4 rfl fl_X7_9 e1 (fun r1 => ?_)
    refine j_icmp_ge (tgt := 40) (pc' := 10) dX7_gatherNearer_7 (by decide) rfl rx2 r1 (fun c2 => ?_) (fun c2 => ?_)
    · rw [if_pos c2] at H
      refine j_sub (lv' := []) [] rfl ?_
      exact tX7_gatherNearer_40   h  H
    · rw [if_neg c2] at H
      refine j_aload_n (i := 0) (pc' := 11) dX7_gatherNearer_10 rfl rfl 0 rfl ?_
      refine j_iload_n (i := 2) (pc' := 12) dX7_gatherNearer_11 rfl rfl 2 rfl ?_
      refine j_iload_n (i := 1) (pc' := 13) dX7_gatherNearer_12 rfl rfl 1 rfl ?_
      obtain ⟨u3, e3, H⟩ := bs H
      obtain ⟨p4, e4, H⟩ := bs H
      refine j_cVi (y := yX7_wayOf) (dY := 1) (vs := [vi x2, vi x1]) (st := []) (q := x0) (pc' := 16) dX7_gatherNearer_13 rfl ymX7_wayOf yvX7_wayOf ml_X7_87 (by decide) rfl (Nat.le_of_ble_eq_true rfl) (Nat.le_of_ble_eq_true rfl) e3 (tX7_wayOf x0 x2 x1 h rx2 rx1 e4) (fun r4 z4 => ?_)
      refine j_aload_n (i := 0) (pc' := 17) dX7_gatherNearer_16 rfl rfl 0 rfl ?_
      refine j_iload_n (i := 2) (pc' := 18) dX7_gatherNearer_17 rfl rfl 2 rfl ?_
      obtain ⟨u5, e5, H⟩ := bs H
      obtain ⟨p6, e6, H⟩ := bs H
      refine j_cVi (y := yX7_wayToCentre) (dY := 2) (vs := [vi x2]) (st := [vi p4.1]) (q := x0) (pc' := 21) dX7_gatherNearer_18 rfl ymX7_wayToCentre yvX7_wayToCentre ml_X7_81 (by decide) rfl (Nat.le_of_ble_eq_true rfl) (Nat.le_of_ble_eq_true rfl) e5 (tX7_wayToCentre x0 x2 p4.2 rx2 e6) (fun r6 z6 => ?_)
      refine j_icmp_ge (tgt := 34) (pc' := 24) dX7_gatherNearer_21 (by decide) rfl r4 r6 (fun c7 => ?_) (fun c7 => ?_)
      · rw [if_pos c7] at H
        exact tX7_gatherNearer_34 _ ih x0 x1 x2 p6.2 rx1 rx2 H
      · rw [if_neg c7] at H
        refine j_aload_n (i := 0) (pc' := 25) dX7_gatherNearer_24 rfl rfl 0 rfl ?_
        obtain ⟨v8, e8, H⟩ := bs H
        refine j_getR (pc' := 28) dX7_gatherNearer_25 rfl fl_X7_31 e8 (fun r8 => ?_)
        obtain ⟨v9, e9, H⟩ := bs H
        refine j_getR (pc' := 31) dX7_gatherNearer_28 rfl fl_X7_71 e9 (fun r9 => ?_)
        refine j_iload_n (i := 2) (pc' := 32) dX7_gatherNearer_31 rfl rfl 2 rfl ?_
        refine j_iload_n (i := 1) (pc' := 33) dX7_gatherNearer_32 rfl rfl 1 rfl ?_
        obtain ⟨h10, e10, H⟩ := bs H
        refine j_iast (pc' := 34) dX7_gatherNearer_33 rfl rx1 e10 ?_
        exact tX7_gatherNearer_34 _ ih x0 x1 x2 h10 rx1 rx2 H
noncomputable def fX7_gatherNearer (a0 : Nat) (a1 : Int) (h : Hp) : Option (Hp) :=
  fX7_gatherNearer_2 FU a0 a1 0 h
theorem tX7_gatherNearer {L : Nat} {xs : Nat → Int32} {l : Launch} {res : Hp} (a0 : Nat) (a1 : Int) (h : Hp) (ra1 : R32 a1) (H : fX7_gatherNearer a0 a1 h = some res) : J L xs l RX7 cX7_gatherNearer 3 false 3 (QV res) 0 0 0 (alv 0 [vr a0, vi a1]) [] h := by
  unfold fX7_gatherNearer at H
  show J L xs l RX7 cX7_gatherNearer 3 false 3 (QV res) 0 0 0 [(0, vr a0), (1, vi a1)] [] h
  refine j_iconst (pc' := 1) dX7_gatherNearer_0 rfl ?_
  refine j_istore_n (i := 2) (lv' := [(0, vr a0), (1, vi a1), (2, vi 0)]) (pc' := 2) dX7_gatherNearer_1 rfl rfl (by decide) [1, 2, 0] rfl ?_
  exact tX7_gatherNearer_2   FU a0 a1 0 h ra1 ⟨by decide, by decide⟩ H
-- X7_partByCentres
noncomputable def fX7_partByCentres_32 (x0 : Nat) (h : Hp) : Option (Int × Hp) :=
  (cob h 6 x0).bind fun _ => (fX7_farthestFromCentre x0 h).bind fun p2 => (cob p2.2 6 x0).bind fun _ => (fX7_wayToCentre x0 p2.1 p2.2).bind fun p4 => (getR p4.2 6 x0 5).bind fun v5 => (cob p4.2 5 v5).bind fun _ => (fX6_renumber v5 p4.2).bind fun h7 => some (p4.1, h7)
theorem tX7_partByCentres_32 {L : Nat} {xs : Nat → Int32} {l : Launch} {res : Int × Hp} (x0 : Nat) (h : Hp)  (H : fX7_partByCentres_32 x0 h = some res) : J L xs l RX7 cX7_partByCentres 3 false 4 (QI res) 0 0 32 [(0, vr x0)] [] h := by
  unfold fX7_partByCentres_32 at H
  refine j_aload_n (i := 0) (pc' := 33) dX7_partByCentres_32 rfl rfl 0 rfl ?_
  refine j_aload_n (i := 0) (pc' := 34) dX7_partByCentres_33 rfl rfl 0 rfl ?_
  obtain ⟨u1, e1, H⟩ := bs H
  obtain ⟨p2, e2, H⟩ := bs H
  refine j_cVi (y := yX7_farthestFromCentre) (dY := 3) (vs := []) (st := [vr x0]) (q := x0) (pc' := 37) dX7_partByCentres_34 rfl ymX7_farthestFromCentre yvX7_farthestFromCentre ml_X7_74 (by decide) rfl (Nat.le_of_ble_eq_true rfl) (Nat.le_of_ble_eq_true rfl) e1 (tX7_farthestFromCentre x0 h e2) (fun r2 z2 => ?_)
  obtain ⟨u3, e3, H⟩ := bs H
  obtain ⟨p4, e4, H⟩ := bs H
  refine j_cVi (y := yX7_wayToCentre) (dY := 2) (vs := [vi p2.1]) (st := []) (q := x0) (pc' := 40) dX7_partByCentres_37 rfl ymX7_wayToCentre yvX7_wayToCentre ml_X7_81 (by decide) rfl (Nat.le_of_ble_eq_true rfl) (Nat.le_of_ble_eq_true rfl) e3 (tX7_wayToCentre x0 p2.1 p2.2 r2 e4) (fun r4 z4 => ?_)
  refine j_istore_n (i := 2) (lv' := [(0, vr x0), (2, vi p4.1)]) (pc' := 41) dX7_partByCentres_40 rfl rfl (by decide) [1, 0] rfl ?_
  refine j_aload_n (i := 0) (pc' := 42) dX7_partByCentres_41 rfl rfl 0 rfl ?_
  obtain ⟨v5, e5, H⟩ := bs H
  refine j_getR (pc' := 45) dX7_partByCentres_42 rfl fl_X7_31 e5 (fun r5 => ?_)
  obtain ⟨u6, e6, H⟩ := bs H
  obtain ⟨h7, e7, H⟩ := bs H
  refine j_cVv (y := yX6_renumber) (dY := 2) (vs := []) (st := []) (q := v5) (pc' := 48) dX7_partByCentres_45 rfl ymX6_renumber yvX6_renumber ml_X7_84 (by decide) rfl (Nat.le_of_ble_eq_true rfl) (Nat.le_of_ble_eq_true rfl) e6 (tX6_renumber v5 p4.2 e7) (fun z7 => ?_)
  refine j_iload_n (i := 2) (pc' := 49) dX7_partByCentres_48 rfl rfl 1 rfl ?_
  obtain rfl := Option.some.inj H
  exact j_iret dX7_partByCentres_49 r4 ⟨rfl, rfl⟩
noncomputable def fX7_partByCentres_13 : Nat → Nat → Int → Int → Hp → Option (Int × Hp)
  | 0, _, _, _, _ => none
  | n + 1, x0, x1, x2, h => if x1 ≤ x2 then (fX7_partByCentres_32 x0 h) else ((cob h 6 x0).bind fun _ => (fX7_farthestFromCentre x0 h).bind fun p3 => (cob p3.2 6 x0).bind fun _ => (fX7_gatherNearer x0 p3.1 p3.2).bind fun h5 => (c32 (x2 + 1)).bind fun _ => fX7_partByCentres_13 n x0 x1 (x2 + 1) h5)
theorem tX7_partByCentres_13 {L : Nat} {xs : Nat → Int32} {l : Launch} {res : Int × Hp} : ∀ (n : Nat) (x0 : Nat) (x1 : Int) (x2 : Int) (h : Hp), R32 x1 → R32 x2 → fX7_partByCentres_13 n x0 x1 x2 h = some res → J L xs l RX7 cX7_partByCentres 3 false 4 (QI res) 0 0 13 [(0, vr x0), (1, vi x1), (2, vi x2)] [] h := by
  intro n
  induction n with
  | zero => intro x0 x1 x2 h rx1 rx2 H; cases H
  | succ n ih =>
    intro x0 x1 x2 h rx1 rx2 H
    rw [fX7_partByCentres_13] at H
    refine j_iload_n (i := 2) (pc' := 14) dX7_partByCentres_13 rfl rfl 2 rfl ?_
    refine j_iload_n (i := 1) (pc' := 15) dX7_partByCentres_14 rfl rfl 1 rfl ?_
    refine j_icmp_ge (tgt := 32) (pc' := 18) dX7_partByCentres_15 (by decide) rfl rx2 rx1 (fun c1 => ?_) (fun c1 => ?_)
    · rw [if_pos c1] at H
      refine j_sub (lv' := [(0, vr x0)]) [0] rfl ?_
      exact tX7_partByCentres_32   x0 h  H
    · rw [if_neg c1] at H
      refine j_aload_n (i := 0) (pc' := 19) dX7_partByCentres_18 rfl rfl 0 rfl ?_
      refine j_aload_n (i := 0) (pc' := 20) dX7_partByCentres_19 rfl rfl 0 rfl ?_
      obtain ⟨u2, e2, H⟩ := bs H
      obtain ⟨p3, e3, H⟩ := bs H
      refine j_cVi (y := yX7_farthestFromCentre) (dY := 3) (vs := []) (st := [vr x0]) (q := x0) (pc' := 23) dX7_partByCentres_20 rfl ymX7_farthestFromCentre yvX7_farthestFromCentre ml_X7_74 (by decide) rfl (Nat.le_of_ble_eq_true rfl) (Nat.le_of_ble_eq_true rfl) e2 (tX7_farthestFromCentre x0 h e3) (fun r3 z3 => ?_)
      obtain ⟨u4, e4, H⟩ := bs H
      obtain ⟨h5, e5, H⟩ := bs H
      refine j_cVv (y := yX7_gatherNearer) (dY := 3) (vs := [vi p3.1]) (st := []) (q := x0) (pc' := 26) dX7_partByCentres_23 rfl ymX7_gatherNearer yvX7_gatherNearer ml_X7_78 (by decide) rfl (Nat.le_of_ble_eq_true rfl) (Nat.le_of_ble_eq_true rfl) e4 (tX7_gatherNearer x0 p3.1 p3.2 r3 e5) (fun z5 => ?_)
      obtain ⟨u6, e6, H⟩ := bs H
      have r6 := c32_R e6
      refine j_iinc (k0 := 2) (lv' := [(0, vr x0), (1, vi x1), (2, vi (x2 + 1))]) (pc' := 29) dX7_partByCentres_26 rfl rfl (by decide) [1, 2, 0] rfl ?_
      refine j_goto (tgt := 13) dX7_partByCentres_29 (by decide) ?_
      exact ih x0 x1 (x2 + 1) h5 rx1 r6 H
noncomputable def fX7_partByCentres (a0 : Nat) (a1 : Int) (h : Hp) : Option (Int × Hp) :=
  (getR h 6 a0 5).bind fun v1 => (getR h 5 v1 2).bind fun v2 => (fJ7_fill_53178 v2 0 h).bind fun h3 => fX7_partByCentres_13 FU a0 a1 1 h3
theorem tX7_partByCentres {L : Nat} {xs : Nat → Int32} {l : Launch} {res : Int × Hp} (a0 : Nat) (a1 : Int) (h : Hp) (ra1 : R32 a1) (H : fX7_partByCentres a0 a1 h = some res) : J L xs l RX7 cX7_partByCentres 3 false 4 (QI res) 0 0 0 (alv 0 [vr a0, vi a1]) [] h := by
  unfold fX7_partByCentres at H
  show J L xs l RX7 cX7_partByCentres 3 false 4 (QI res) 0 0 0 [(0, vr a0), (1, vi a1)] [] h
  refine j_aload_n (i := 0) (pc' := 1) dX7_partByCentres_0 rfl rfl 0 rfl ?_
  obtain ⟨v1, e1, H⟩ := bs H
  refine j_getR (pc' := 4) dX7_partByCentres_1 rfl fl_X7_31 e1 (fun r1 => ?_)
  obtain ⟨v2, e2, H⟩ := bs H
  refine j_getR (pc' := 7) dX7_partByCentres_4 rfl fl_X7_71 e2 (fun r2 => ?_)
  refine j_iconst (pc' := 8) dX7_partByCentres_7 rfl ?_
  obtain ⟨h3, e3, H⟩ := bs H
  refine j_cSv (y := yJ7_fill_53178) (dY := 1) (vs := [vr v2, vi 0]) (st := []) (pc' := 11) dX7_partByCentres_8 rfl ymJ7_fill_53178 ysJ7_fill_53178 ml_X7_35 (by decide) rfl (Nat.le_of_ble_eq_true rfl) (Nat.le_of_ble_eq_true rfl) (tJ7_fill_53178 v2 0 h ⟨by decide, by decide⟩ e3) (fun z3 => ?_)
  refine j_iconst (pc' := 12) dX7_partByCentres_11 rfl ?_
  refine j_istore_n (i := 2) (lv' := [(0, vr a0), (1, vi a1), (2, vi 1)]) (pc' := 13) dX7_partByCentres_12 rfl rfl (by decide) [1, 2, 0] rfl ?_
  exact tX7_partByCentres_13   FU a0 a1 1 h3 ra1 ⟨by decide, by decide⟩ H
