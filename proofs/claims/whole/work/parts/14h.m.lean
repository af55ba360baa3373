-- X11_fault
noncomputable def fX11_fault (a0 : Nat) (h : Hp) : Option (Int × Hp) :=
  (getI h 10 a0 11).bind fun v1 => some (v1, h)
theorem tX11_fault {L : Nat} {xs : Nat → Int32} {l : Launch} {res : Int × Hp} (a0 : Nat) (h : Hp)  (H : fX11_fault a0 h = some res) : J L xs l RX11 cX11_fault 1 false 1 (QI res) 0 0 0 (alv 0 [vr a0]) [] h := by
  unfold fX11_fault at H
  show J L xs l RX11 cX11_fault 1 false 1 (QI res) 0 0 0 [(0, vr a0)] [] h
  refine j_aload_n (i := 0) (pc' := 1) dX11_fault_0 rfl rfl 0 rfl ?_
  obtain ⟨v1, e1, H⟩ := bs H
  refine j_getI (pc' := 4) dX11_fault_1 rfl fl_X11_83 e1 (fun r1 => ?_)
  obtain rfl := Option.some.inj H
  exact j_iret dX11_fault_4 r1 ⟨rfl, rfl⟩
-- X12_begin
noncomputable def fX12_begin_85 (x0 : Nat) (h : Hp) : Option (Hp) :=
  (putV h 11 x0 11 (vi (-1))).bind fun h1 => some h1
theorem tX12_begin_85 {L : Nat} {xs : Nat → Int32} {l : Launch} {res : Hp} (x0 : Nat) (h : Hp)  (H : fX12_begin_85 x0 h = some res) : J L xs l RX12 cX12_begin 3 false 1 (QV res) 0 0 85 [(0, vr x0)] [] h := by
  unfold fX12_begin_85 at H
  refine j_aload_n (i := 0) (pc' := 86) dX12_begin_85 rfl rfl 0 rfl ?_
  refine j_iconst (pc' := 87) dX12_begin_86 rfl ?_
  obtain ⟨h1, e1, H⟩ := bs H
  refine j_putV (pc' := 90) dX12_begin_87 rfl fp_X12_37 tI ⟨by decide, by decide⟩ e1 ?_
  obtain rfl := Option.some.inj H
  exact j_vret dX12_begin_90 ⟨rfl, rfl⟩
noncomputable def fX12_begin_66 : Nat → Nat → Int → Hp → Option (Hp)
  | 0, _, _, _ => none
  | n + 1, x0, x2, h => if 12 ≤ x2 then (fX12_begin_85 x0 h) else ((getR h 11 x0 5).bind fun v2 => (ast h 0 v2 x2 0).bind fun h3 => (c32 (x2 + 1)).bind fun _ => fX12_begin_66 n x0 (x2 + 1) h3)
theorem tX12_begin_66 {L : Nat} {xs : Nat → Int32} {l : Launch} {res : Hp} : ∀ (n : Nat) (x0 : Nat) (x2 : Int) (h : Hp), R32 x2 → fX12_begin_66 n x0 x2 h = some res → J L xs l RX12 cX12_begin 3 false 1 (QV res) 0 0 66 [(0, vr x0), (2, vi x2)] [] h := by
  intro n
  induction n with
  | zero => intro x0 x2 h rx2 H; cases H
  | succ n ih =>
    intro x0 x2 h rx2 H
    rw [fX12_begin_66] at H
    refine j_iload_n (i := 2) (pc' := 67) dX12_begin_66 rfl rfl 1 rfl ?_
    refine j_bipush (pc' := 69) dX12_begin_67 rfl (by decide +kernel) ?_
    refine j_icmp_ge (tgt := 85) (pc' := 72) dX12_begin_69 (by decide) rfl rx2 ⟨by decide, by decide⟩ (fun c1 => ?_) (fun c1 => ?_)
    · rw [if_pos c1] at H
      refine j_sub (lv' := [(0, vr x0)]) [0] rfl ?_
      exact tX12_begin_85   x0 h  H
    · rw [if_neg c1] at H
      refine j_aload_n (i := 0) (pc' := 73) dX12_begin_72 rfl rfl 0 rfl ?_
      obtain ⟨v2, e2, H⟩ := bs H
      refine j_getR (pc' := 76) dX12_begin_73 rfl fl_X12_26 e2 (fun r2 => ?_)
      refine j_iload_n (i := 2) (pc' := 77) dX12_begin_76 rfl rfl 1 rfl ?_
      refine j_iconst (pc' := 78) dX12_begin_77 rfl ?_
      obtain ⟨h3, e3, H⟩ := bs H
      refine j_iast (pc' := 79) dX12_begin_78 rfl ⟨by decide, by decide⟩ e3 ?_
      obtain ⟨u4, e4, H⟩ := bs H
      have r4 := c32_R e4
      refine j_iinc (k0 := 1) (lv' := [(0, vr x0), (2, vi (x2 + 1))]) (pc' := 82) dX12_begin_79 rfl rfl (by decide) [1, 0] rfl ?_
      refine j_goto (tgt := 66) dX12_begin_82 (by decide) ?_
      exact ih x0 (x2 + 1) h3 r4 H
noncomputable def fX12_begin_64 (x0 : Nat) (h : Hp) : Option (Hp) :=
  fX12_begin_66 FU x0 0 h
theorem tX12_begin_64 {L : Nat} {xs : Nat → Int32} {l : Launch} {res : Hp} (x0 : Nat) (h : Hp)  (H : fX12_begin_64 x0 h = some res) : J L xs l RX12 cX12_begin 3 false 1 (QV res) 0 0 64 [(0, vr x0)] [] h := by
  unfold fX12_begin_64 at H
  refine j_iconst (pc' := 65) dX12_begin_64 rfl ?_
  refine j_istore_n (i := 2) (lv' := [(0, vr x0), (2, vi 0)]) (pc' := 66) dX12_begin_65 rfl rfl (by decide) [1, 0] rfl ?_
  exact tX12_begin_66   FU x0 0 h ⟨by decide, by decide⟩ H
noncomputable def fX12_begin_30 : Nat → Nat → Int → Hp → Option (Hp)
  | 0, _, _, _ => none
  | n + 1, x0, x2, h => if 144 ≤ x2 then (fX12_begin_64 x0 h) else ((getR h 11 x0 2).bind fun v2 => (ast h 0 v2 x2 0).bind fun h3 => (getR h3 11 x0 3).bind fun v4 => (ast h3 0 v4 x2 0).bind fun h5 => (getR h5 11 x0 4).bind fun v6 => (ast h5 2 v6 x2 0).bind fun h7 => (c32 (x2 + 1)).bind fun _ => fX12_begin_30 n x0 (x2 + 1) h7)
theorem tX12_begin_30 {L : Nat} {xs : Nat → Int32} {l : Launch} {res : Hp} : ∀ (n : Nat) (x0 : Nat) (x2 : Int) (h : Hp), R32 x2 → fX12_begin_30 n x0 x2 h = some res → J L xs l RX12 cX12_begin 3 false 1 (QV res) 0 0 30 [(0, vr x0), (2, vi x2)] [] h := by
  intro n
  induction n with
  | zero => intro x0 x2 h rx2 H; cases H
  | succ n ih =>
    intro x0 x2 h rx2 H
    rw [fX12_begin_30] at H
    refine j_iload_n (i := 2) (pc' := 31) dX12_begin_30 rfl rfl 1 rfl ?_
    refine j_sipush (pc' := 34) dX12_begin_31 rfl (by decide +kernel) ?_
    refine j_icmp_ge (tgt := 64) (pc' := 37) dX12_begin_34 (by decide) rfl rx2 ⟨by decide, by decide⟩ (fun c1 => ?_) (fun c1 => ?_)
    · rw [if_pos c1] at H
      refine j_sub (lv' := [(0, vr x0)]) [0] rfl ?_
      exact tX12_begin_64   x0 h  H
    · rw [if_neg c1] at H
      refine j_aload_n (i := 0) (pc' := 38) dX12_begin_37 rfl rfl 0 rfl ?_
      obtain ⟨v2, e2, H⟩ := bs H
      refine j_getR (pc' := 41) dX12_begin_38 rfl fl_X12_16 e2 (fun r2 => ?_)
      refine j_iload_n (i := 2) (pc' := 42) dX12_begin_41 rfl rfl 1 rfl ?_
      refine j_iconst (pc' := 43) dX12_begin_42 rfl ?_
      obtain ⟨h3, e3, H⟩ := bs H
      refine j_iast (pc' := 44) dX12_begin_43 rfl ⟨by decide, by decide⟩ e3 ?_
      refine j_aload_n (i := 0) (pc' := 45) dX12_begin_44 rfl rfl 0 rfl ?_
      obtain ⟨v4, e4, H⟩ := bs H
      refine j_getR (pc' := 48) dX12_begin_45 rfl fl_X12_19 e4 (fun r4 => ?_)
      refine j_iload_n (i := 2) (pc' := 49) dX12_begin_48 rfl rfl 1 rfl ?_
      refine j_iconst (pc' := 50) dX12_begin_49 rfl ?_
      obtain ⟨h5, e5, H⟩ := bs H
      refine j_iast (pc' := 51) dX12_begin_50 rfl ⟨by decide, by decide⟩ e5 ?_
      refine j_aload_n (i := 0) (pc' := 52) dX12_begin_51 rfl rfl 0 rfl ?_
      obtain ⟨v6, e6, H⟩ := bs H
      refine j_getR (pc' := 55) dX12_begin_52 rfl fl_X12_22 e6 (fun r6 => ?_)
      refine j_iload_n (i := 2) (pc' := 56) dX12_begin_55 rfl rfl 1 rfl ?_
      refine j_iconst (pc' := 57) dX12_begin_56 rfl ?_
      obtain ⟨h7, e7, H⟩ := bs H
      refine j_zast (pc' := 58) dX12_begin_57 rfl ⟨by decide, by decide⟩ (by decide) e7 ?_
      obtain ⟨u8, e8, H⟩ := bs H
      have r8 := c32_R e8
      refine j_iinc (k0 := 1) (lv' := [(0, vr x0), (2, vi (x2 + 1))]) (pc' := 61) dX12_begin_58 rfl rfl (by decide) [1, 0] rfl ?_
      refine j_goto (tgt := 30) dX12_begin_61 (by decide) ?_
      exact ih x0 (x2 + 1) h7 r8 H
noncomputable def fX12_begin_28 (x0 : Nat) (h : Hp) : Option (Hp) :=
  fX12_begin_30 FU x0 0 h
theorem tX12_begin_28 {L : Nat} {xs : Nat → Int32} {l : Launch} {res : Hp} (x0 : Nat) (h : Hp)  (H : fX12_begin_28 x0 h = some res) : J L xs l RX12 cX12_begin 3 false 1 (QV res) 0 0 28 [(0, vr x0)] [] h := by
  unfold fX12_begin_28 at H
  refine j_iconst (pc' := 29) dX12_begin_28 rfl ?_
  refine j_istore_n (i := 2) (lv' := [(0, vr x0), (2, vi 0)]) (pc' := 30) dX12_begin_29 rfl rfl (by decide) [1, 0] rfl ?_
  exact tX12_begin_30   FU x0 0 h ⟨by decide, by decide⟩ H
noncomputable def fX12_begin_9 : Nat → Nat → Int → Hp → Option (Hp)
  | 0, _, _, _ => none
  | n + 1, x0, x2, h => if 48 ≤ x2 then (fX12_begin_28 x0 h) else ((getR h 11 x0 1).bind fun v2 => (ast h 0 v2 x2 0).bind fun h3 => (c32 (x2 + 1)).bind fun _ => fX12_begin_9 n x0 (x2 + 1) h3)
theorem tX12_begin_9 {L : Nat} {xs : Nat → Int32} {l : Launch} {res : Hp} : ∀ (n : Nat) (x0 : Nat) (x2 : Int) (h : Hp), R32 x2 → fX12_begin_9 n x0 x2 h = some res → J L xs l RX12 cX12_begin 3 false 1 (QV res) 0 0 9 [(0, vr x0), (2, vi x2)] [] h := by
  intro n
  induction n with
  | zero => intro x0 x2 h rx2 H; cases H
  | succ n ih =>
    intro x0 x2 h rx2 H
    rw [fX12_begin_9] at H
    refine j_iload_n (i := 2) (pc' := 10) dX12_begin_9 rfl rfl 1 rfl ?_
    refine j_bipush (pc' := 12) dX12_begin_10 rfl (by decide +kernel) ?_
    refine j_icmp_ge (tgt := 28) (pc' := 15) dX12_begin_12 (by decide) rfl rx2 ⟨by decide, by decide⟩ (fun c1 => ?_) (fun c1 => ?_)
    · rw [if_pos c1] at H
      refine j_sub (lv' := [(0, vr x0)]) [0] rfl ?_
      exact tX12_begin_28   x0 h  H
    · rw [if_neg c1] at H
      refine j_aload_n (i := 0) (pc' := 16) dX12_begin_15 rfl rfl 0 rfl ?_
      obtain ⟨v2, e2, H⟩ := bs H
      refine j_getR (pc' := 19) dX12_begin_16 rfl fl_X12_13 e2 (fun r2 => ?_)
      refine j_iload_n (i := 2) (pc' := 20) dX12_begin_19 rfl rfl 1 rfl ?_
      refine j_iconst (pc' := 21) dX12_begin_20 rfl ?_
      obtain ⟨h3, e3, H⟩ := bs H
      refine j_iast (pc' := 22) dX12_begin_21 rfl ⟨by decide, by decide⟩ e3 ?_
      obtain ⟨u4, e4, H⟩ := bs H
      have r4 := c32_R e4
      refine j_iinc (k0 := 1) (lv' := [(0, vr x0), (2, vi (x2 + 1))]) (pc' := 25) dX12_begin_22 rfl rfl (by decide) [1, 0] rfl ?_
      refine j_goto (tgt := 9) dX12_begin_25 (by decide) ?_
      exact ih x0 (x2 + 1) h3 r4 H
noncomputable def fX12_begin (a0 : Nat) (a1 : Int) (h : Hp) : Option (Hp) :=
  (getR h 11 a0 0).bind fun v1 => (ast h 0 v1 0 a1).bind fun h2 => fX12_begin_9 FU a0 0 h2
theorem tX12_begin {L : Nat} {xs : Nat → Int32} {l : Launch} {res : Hp} (a0 : Nat) (a1 : Int) (h : Hp) (ra1 : R32 a1) (H : fX12_begin a0 a1 h = some res) : J L xs l RX12 cX12_begin 3 false 1 (QV res) 0 0 0 (alv 0 [vr a0, vi a1]) [] h := by
  unfold fX12_begin at H
  show J L xs l RX12 cX12_begin 3 false 1 (QV res) 0 0 0 [(0, vr a0), (1, vi a1)] [] h
  refine j_aload_n (i := 0) (pc' := 1) dX12_begin_0 rfl rfl 0 rfl ?_
  obtain ⟨v1, e1, H⟩ := bs H
  refine j_getR (pc' := 4) dX12_begin_1 rfl fl_X12_9 e1 (fun r1 => ?_)
  refine j_iconst (pc' := 5) dX12_begin_4 rfl ?_
  refine j_iload_n (i := 1) (pc' := 6) dX12_begin_5 rfl rfl 1 rfl ?_
  obtain ⟨h2, e2, H⟩ := bs H
  refine j_iast (pc' := 7) dX12_begin_6 rfl ra1 e2 ?_
  refine j_iconst (pc' := 8) dX12_begin_7 rfl ?_
  refine j_istore_n (i := 2) (lv' := [(0, vr a0), (1, vi a1), (2, vi 0)]) (pc' := 9) dX12_begin_8 rfl rfl (by decide) [1, 2, 0] rfl ?_
  refine j_sub (lv' := [(0, vr a0), (2, vi 0)]) [0, 2] rfl ?_
  exact tX12_begin_9   FU a0 0 h2 ⟨by decide, by decide⟩ H
-- X12_init
noncomputable def fX12_init (a0 : Nat) (h : Hp) : Option (Hp) :=
  (cob h 11 a0).bind fun _ => (crf h a0).bind fun _ => (newO h (arr 0 21 (fun _ => 0))).bind fun p3 => (crf p3.2 p3.1).bind fun _ => (putV p3.2 11 a0 0 (vr p3.1)).bind fun h5 => (crf h5 a0).bind fun _ => (newO h5 (arr 0 1008 (fun _ => 0))).bind fun p7 => (crf p7.2 p7.1).bind fun _ => (putV p7.2 11 a0 1 (vr p7.1)).bind fun h9 => (crf h9 a0).bind fun _ => (newO h9 (arr 0 3024 (fun _ => 0))).bind fun p11 => (crf p11.2 p11.1).bind fun _ => (putV p11.2 11 a0 2 (vr p11.1)).bind fun h13 => (crf h13 a0).bind fun _ => (newO h13 (arr 0 3024 (fun _ => 0))).bind fun p15 => (crf p15.2 p15.1).bind fun _ => (putV p15.2 11 a0 3 (vr p15.1)).bind fun h17 => (crf h17 a0).bind fun _ => (newO h17 (arr 2 3024 (fun _ => 0))).bind fun p19 => (crf p19.2 p19.1).bind fun _ => (putV p19.2 11 a0 4 (vr p19.1)).bind fun h21 => (crf h21 a0).bind fun _ => (newO h21 (arr 0 252 (fun _ => 0))).bind fun p23 => (crf p23.2 p23.1).bind fun _ => (putV p23.2 11 a0 5 (vr p23.1)).bind fun h25 => (putV h25 11 a0 8 (vi (-1))).bind fun h26 => (crf h26 a0).bind fun _ => (newO h26 (arr 1 8 (fun _ => 0))).bind fun p28 => (crf p28.2 p28.1).bind fun _ => (putV p28.2 11 a0 10 (vr p28.1)).bind fun h30 => (putV h30 11 a0 11 (vi (-1))).bind fun h31 => (crf h31 a0).bind fun _ => (newO h31 (arr 0 12 (fun _ => 0))).bind fun p33 => (crf p33.2 p33.1).bind fun _ => (putV p33.2 11 a0 12 (vr p33.1)).bind fun h35 => (crf h35 a0).bind fun _ => (newO h35 (arr 0 12 (fun _ => 0))).bind fun p37 => (crf p37.2 p37.1).bind fun _ => (putV p37.2 11 a0 13 (vr p37.1)).bind fun h39 => (crf h39 a0).bind fun _ => (newO h39 (arr 0 12 (fun _ => 0))).bind fun p41 => (crf p41.2 p41.1).bind fun _ => (putV p41.2 11 a0 14 (vr p41.1)).bind fun h43 => (crf h43 a0).bind fun _ => (newO h43 (arr 0 4 (fun _ => 0))).bind fun p45 => (crf p45.2 p45.1).bind fun _ => (putV p45.2 11 a0 15 (vr p45.1)).bind fun h47 => (crf h47 a0).bind fun _ => (newO h47 (arr 0 48 (fun _ => 0))).bind fun p49 => (crf p49.2 p49.1).bind fun _ => (putV p49.2 11 a0 16 (vr p49.1)).bind fun h51 => (crf h51 a0).bind fun _ => (newO h51 (arr 0 12 (fun _ => 0))).bind fun p53 => (crf p53.2 p53.1).bind fun _ => (putV p53.2 11 a0 17 (vr p53.1)).bind fun h55 => (crf h55 a0).bind fun _ => (newO h55 (arr 0 12 (fun _ => 0))).bind fun p57 => (crf p57.2 p57.1).bind fun _ => (putV p57.2 11 a0 20 (vr p57.1)).bind fun h59 => (crf h59 a0).bind fun _ => (newO h59 (arr 0 12 (fun _ => 0))).bind fun p61 => (crf p61.2 p61.1).bind fun _ => (putV p61.2 11 a0 21 (vr p61.1)).bind fun h63 => (crf h63 a0).bind fun _ => (newO h63 (arr 0 12 (fun _ => 0))).bind fun p65 => (crf p65.2 p65.1).bind fun _ => (putV p65.2 11 a0 22 (vr p65.1)).bind fun h67 => (crf h67 a0).bind fun _ => (newO h67 (arr 0 144 (fun _ => 0))).bind fun p69 => (crf p69.2 p69.1).bind fun _ => (putV p69.2 11 a0 23 (vr p69.1)).bind fun h71 => (crf h71 a0).bind fun _ => (newO h71 (arr 0 12 (fun _ => 0))).bind fun p73 => (crf p73.2 p73.1).bind fun _ => (putV p73.2 11 a0 24 (vr p73.1)).bind fun h75 => (cob h75 11 a0).bind fun _ => (fX12_begin a0 1 h75).bind fun h77 => some h77
theorem tX12_init {L : Nat} {xs : Nat → Int32} {l : Launch} {res : Hp} (a0 : Nat) (h : Hp)  (H : fX12_init a0 h = some res) : J L xs l RX12 cX12_init 1 true 2 (QV res) 18 10653 0 (alv 0 [vr a0]) [] h := by
  unfold fX12_init at H
  show J L xs l RX12 cX12_init 1 true 2 (QV res) 18 10653 0 [(0, vr a0)] [] h
  refine j_aload_n (i := 0) (pc' := 1) dX12_init_0 rfl rfl 0 rfl ?_
  obtain ⟨u1, e1, H⟩ := bs H
  refine j_objInit (pc' := 4) dX12_init_1 rfl ml_X12_1 oi_1 oi_2 (by decide) e1 (Nat.le_of_ble_eq_true rfl) ?_
  refine j_aload_n (i := 0) (pc' := 5) dX12_init_4 rfl rfl 0 rfl ?_
  refine j_bipush (pc' := 7) dX12_init_5 rfl (by decide +kernel) ?_
  obtain ⟨u2, e2, H⟩ := bs H
  obtain ⟨p3, e3, H⟩ := bs H
  refine j_newIp (N := 21) (rc := 17) (rs := 10632) (pc' := 9) rfl (by decide) dX12_init_7 rfl ak_int ⟨(crf_R e2), trivial⟩ ⟨(crf_R e2), trivial⟩ e3 ?_
  obtain ⟨u4, e4, H⟩ := bs H
  obtain ⟨h5, e5, H⟩ := bs H
  refine j_putF (pc' := 12) dX12_init_9 rfl rfl fp_X12_9 tR (crf_R e4) e5 ?_
  refine j_aload_n (i := 0) (pc' := 13) dX12_init_12 rfl rfl 0 rfl ?_
  refine j_sipush (pc' := 16) dX12_init_13 rfl (by decide +kernel) ?_
  obtain ⟨u6, e6, H⟩ := bs H
  obtain ⟨p7, e7, H⟩ := bs H
  refine j_newIp (N := 1008) (rc := 16) (rs := 9624) (pc' := 18) rfl (by decide) dX12_init_16 rfl ak_int ⟨(crf_R e6), trivial⟩ ⟨(crf_R e6), trivial⟩ e7 ?_
  obtain ⟨u8, e8, H⟩ := bs H
  obtain ⟨h9, e9, H⟩ := bs H
  refine j_putF (pc' := 21) dX12_init_18 rfl rfl fp_X12_13 tR (crf_R e8) e9 ?_
  refine j_aload_n (i := 0) (pc' := 22) dX12_init_21 rfl rfl 0 rfl ?_
  refine j_sipush (pc' := 25) dX12_init_22 rfl (by decide +kernel) ?_
  obtain ⟨u10, e10, H⟩ := bs H
  obtain ⟨p11, e11, H⟩ := bs H
  refine j_newIp (N := 3024) (rc := 15) (rs := 6600) (pc' := 27) rfl (by decide) dX12_init_25 rfl ak_int ⟨(crf_R e10), trivial⟩ ⟨(crf_R e10), trivial⟩ e11 ?_
  obtain ⟨u12, e12, H⟩ := bs H
  obtain ⟨h13, e13, H⟩ := bs H
  refine j_putF (pc' := 30) dX12_init_27 rfl rfl fp_X12_16 tR (crf_R e12) e13 ?_
  refine j_aload_n (i := 0) (pc' := 31) dX12_init_30 rfl rfl 0 rfl ?_
  refine j_sipush (pc' := 34) dX12_init_31 rfl (by decide +kernel) ?_
  obtain ⟨u14, e14, H⟩ := bs H
  obtain ⟨p15, e15, H⟩ := bs H
  refine j_newIp (N := 3024) (rc := 14) (rs := 3576) (pc' := 36) rfl (by decide) dX12_init_34 rfl ak_int ⟨(crf_R e14), trivial⟩ ⟨(crf_R e14), trivial⟩ e15 ?_
  obtain ⟨u16, e16, H⟩ := bs H
  obtain ⟨h17, e17, H⟩ := bs H
  refine j_putF (pc' := 39) dX12_init_36 rfl rfl fp_X12_19 tR (crf_R e16) e17 ?_
  refine j_aload_n (i := 0) (pc' := 40) dX12_init_39 rfl rfl 0 rfl ?_
  refine j_sipush (pc' := 43) dX12_init_40 rfl (by decide +kernel) ?_
  obtain ⟨u18, e18, H⟩ := bs H
  obtain ⟨p19, e19, H⟩ := bs H
  refine j_newZp (N := 3024) (rc := 13) (rs := 552) (pc' := 45) rfl (by decide) dX12_init_43 rfl ak_boolean ⟨(crf_R e18), trivial⟩ ⟨(crf_R e18), trivial⟩ e19 ?_
  obtain ⟨u20, e20, H⟩ := bs H
  obtain ⟨h21, e21, H⟩ := bs H
  refine j_putF (pc' := 48) dX12_init_45 rfl rfl fp_X12_22 tR (crf_R e20) e21 ?_
  refine j_aload_n (i := 0) (pc' := 49) dX12_init_48 rfl rfl 0 rfl ?_
  refine j_sipush (pc' := 52) dX12_init_49 rfl (by decide +kernel) ?_
  obtain ⟨u22, e22, H⟩ := bs H
  obtain ⟨p23, e23, H⟩ := bs H
  refine j_newIp (N := 252) (rc := 12) (rs := 300) (pc' := 54) rfl (by decide) dX12_init_52 rfl ak_int ⟨(crf_R e22), trivial⟩ ⟨(crf_R e22), trivial⟩ e23 ?_
  obtain ⟨u24, e24, H⟩ := bs H
  obtain ⟨h25, e25, H⟩ := bs H
  refine j_putF (pc' := 57) dX12_init_54 rfl rfl fp_X12_26 tR (crf_R e24) e25 ?_
  refine j_aload_n (i := 0) (pc' := 58) dX12_init_57 rfl rfl 0 rfl ?_
  refine j_iconst (pc' := 59) dX12_init_58 rfl ?_
  obtain ⟨h26, e26, H⟩ := bs H
  refine j_putV (pc' := 62) dX12_init_59 rfl fp_X12_29 tI ⟨by decide, by decide⟩ e26 ?_
  refine j_aload_n (i := 0) (pc' := 63) dX12_init_62 rfl rfl 0 rfl ?_
  refine j_bipush (pc' := 65) dX12_init_63 rfl (by decide +kernel) ?_
  obtain ⟨u27, e27, H⟩ := bs H
  obtain ⟨p28, e28, H⟩ := bs H
  refine j_newLp (N := 8) (rc := 11) (rs := 292) (pc' := 67) rfl (by decide) dX12_init_65 rfl ak_long ⟨(crf_R e27), trivial⟩ ⟨(crf_R e27), trivial⟩ e28 ?_
  obtain ⟨u29, e29, H⟩ := bs H
  obtain ⟨h30, e30, H⟩ := bs H
  refine j_putF (pc' := 70) dX12_init_67 rfl rfl fp_X12_33 tR (crf_R e29) e30 ?_
  refine j_aload_n (i := 0) (pc' := 71) dX12_init_70 rfl rfl 0 rfl ?_
  refine j_iconst (pc' := 72) dX12_init_71 rfl ?_
  obtain ⟨h31, e31, H⟩ := bs H
  refine j_putV (pc' := 75) dX12_init_72 rfl fp_X12_37 tI ⟨by decide, by decide⟩ e31 ?_
  refine j_aload_n (i := 0) (pc' := 76) dX12_init_75 rfl rfl 0 rfl ?_
  refine j_bipush (pc' := 78) dX12_init_76 rfl (by decide +kernel) ?_
  obtain ⟨u32, e32, H⟩ := bs H
  obtain ⟨p33, e33, H⟩ := bs H
  refine j_newIp (N := 12) (rc := 10) (rs := 280) (pc' := 80) rfl (by decide) dX12_init_78 rfl ak_int ⟨(crf_R e32), trivial⟩ ⟨(crf_R e32), trivial⟩ e33 ?_
  obtain ⟨u34, e34, H⟩ := bs H
  obtain ⟨h35, e35, H⟩ := bs H
  refine j_putF (pc' := 83) dX12_init_80 rfl rfl fp_X12_40 tR (crf_R e34) e35 ?_
  refine j_aload_n (i := 0) (pc' := 84) dX12_init_83 rfl rfl 0 rfl ?_
  refine j_bipush (pc' := 86) dX12_init_84 rfl (by decide +kernel) ?_
  obtain ⟨u36, e36, H⟩ := bs H
  obtain ⟨p37, e37, H⟩ := bs H
  refine j_newIp (N := 12) (rc := 9) (rs := 268) (pc' := 88) rfl (by decide) dX12_init_86 rfl ak_int ⟨(crf_R e36), trivial⟩ ⟨(crf_R e36), trivial⟩ e37 ?_
  obtain ⟨u38, e38, H⟩ := bs H
  obtain ⟨h39, e39, H⟩ := bs H
  refine j_putF (pc' := 91) dX12_init_88 rfl rfl fp_X12_43 tR (crf_R e38) e39 ?_
  refine j_aload_n (i := 0) (pc' := 92) dX12_init_91 rfl rfl 0 rfl ?_
  refine j_bipush (pc' := 94) dX12_init_92 rfl (by decide +kernel) ?_
  obtain ⟨u40, e40, H⟩ := bs H
  obtain ⟨p41, e41, H⟩ := bs H
  refine j_newIp (N := 12) (rc := 8) (rs := 256) (pc' := 96) rfl (by decide) dX12_init_94 rfl ak_int ⟨(crf_R e40), trivial⟩ ⟨(crf_R e40), trivial⟩ e41 ?_
  obtain ⟨u42, e42, H⟩ := bs H
  obtain ⟨h43, e43, H⟩ := bs H
  refine j_putF (pc' := 99) dX12_init_96 rfl rfl fp_X12_46 tR (crf_R e42) e43 ?_
  refine j_aload_n (i := 0) (pc' := 100) dX12_init_99 rfl rfl 0 rfl ?_
  refine j_iconst (pc' := 101) dX12_init_100 rfl ?_
  obtain ⟨u44, e44, H⟩ := bs H
  obtain ⟨p45, e45, H⟩ := bs H
  refine j_newIp (N := 4) (rc := 7) (rs := 252) (pc' := 103) rfl (by decide) dX12_init_101 rfl ak_int ⟨(crf_R e44), trivial⟩ ⟨(crf_R e44), trivial⟩ e45 ?_
  obtain ⟨u46, e46, H⟩ := bs H
  obtain ⟨h47, e47, H⟩ := bs H
  refine j_putF (pc' := 106) dX12_init_103 rfl rfl fp_X12_49 tR (crf_R e46) e47 ?_
  refine j_aload_n (i := 0) (pc' := 107) dX12_init_106 rfl rfl 0 rfl ?_
  refine j_bipush (pc' := 109) dX12_init_107 rfl (by decide +kernel) ?_
  obtain ⟨u48, e48, H⟩ := bs H
  obtain ⟨p49, e49, H⟩ := bs H
  refine j_newIp (N := 48) (rc := 6) (rs := 204) (pc' := 111) rfl (by decide) dX12_init_109 rfl ak_int ⟨(crf_R e48), trivial⟩ ⟨(crf_R e48), trivial⟩ e49 ?_
  obtain ⟨u50, e50, H⟩ := bs H
  obtain ⟨h51, e51, H⟩ := bs H
  refine j_putF (pc' := 114) dX12_init_111 rfl rfl fp_X12_52 tR (crf_R e50) e51 ?_
  refine j_aload_n (i := 0) (pc' := 115) dX12_init_114 rfl rfl 0 rfl ?_
  refine j_bipush (pc' := 117) dX12_init_115 rfl (by decide +kernel) ?_
  obtain ⟨u52, e52, H⟩ := bs H
  obtain ⟨p53, e53, H⟩ := bs H
  refine j_newIp (N := 12) (rc := 5) (rs := 192) (pc' := 119) rfl (by decide) dX12_init_117 rfl ak_int ⟨(crf_R e52), trivial⟩ ⟨(crf_R e52), trivial⟩ e53 ?_
  obtain ⟨u54, e54, H⟩ := bs H
  obtain ⟨h55, e55, H⟩ := bs H
  refine j_putF (pc' := 122) dX12_init_119 rfl rfl fp_X12_55 tR (crf_R e54) e55 ?_
  refine j_aload_n (i := 0) (pc' := 123) dX12_init_122 rfl rfl 0 rfl ?_
  refine j_bipush (pc' := 125) dX12_init_123 rfl (by decide +kernel) ?_
  obtain ⟨u56, e56, H⟩ := bs H
  obtain ⟨p57, e57, H⟩ := bs H
  refine j_newIp (N := 12) (rc := 4) (rs := 180) (pc' := 127) rfl (by decide) dX12_init_125 rfl ak_int ⟨(crf_R e56), trivial⟩ ⟨(crf_R e56), trivial⟩ e57 ?_
  obtain ⟨u58, e58, H⟩ := bs H
  obtain ⟨h59, e59, H⟩ := bs H
  refine j_putF (pc' := 130) dX12_init_127 rfl rfl fp_X12_58 tR (crf_R e58) e59 ?_
  refine j_aload_n (i := 0) (pc' := 131) dX12_init_130 rfl rfl 0 rfl ?_
  refine j_bipush (pc' := 133) dX12_init_131 rfl (by decide +kernel) ?_
  obtain ⟨u60, e60, H⟩ := bs H
  obtain ⟨p61, e61, H⟩ := bs H
  refine j_newIp (N := 12) (rc := 3) (rs := 168) (pc' := 135) rfl (by decide) dX12_init_133 rfl ak_int ⟨(crf_R e60), trivial⟩ ⟨(crf_R e60), trivial⟩ e61 ?_
  obtain ⟨u62, e62, H⟩ := bs H
  obtain ⟨h63, e63, H⟩ := bs H
  refine j_putF (pc' := 138) dX12_init_135 rfl rfl fp_X12_61 tR (crf_R e62) e63 ?_
  refine j_aload_n (i := 0) (pc' := 139) dX12_init_138 rfl rfl 0 rfl ?_
  refine j_bipush (pc' := 141) dX12_init_139 rfl (by decide +kernel) ?_
  obtain ⟨u64, e64, H⟩ := bs H
  obtain ⟨p65, e65, H⟩ := bs H
  refine j_newIp (N := 12) (rc := 2) (rs := 156) (pc' := 143) rfl (by decide) dX12_init_141 rfl ak_int ⟨(crf_R e64), trivial⟩ ⟨(crf_R e64), trivial⟩ e65 ?_
  obtain ⟨u66, e66, H⟩ := bs H
  obtain ⟨h67, e67, H⟩ := bs H
  refine j_putF (pc' := 146) dX12_init_143 rfl rfl fp_X12_64 tR (crf_R e66) e67 ?_
  refine j_aload_n (i := 0) (pc' := 147) dX12_init_146 rfl rfl 0 rfl ?_
  refine j_sipush (pc' := 150) dX12_init_147 rfl (by decide +kernel) ?_
  obtain ⟨u68, e68, H⟩ := bs H
  obtain ⟨p69, e69, H⟩ := bs H
  refine j_newIp (N := 144) (rc := 1) (rs := 12) (pc' := 152) rfl (by decide) dX12_init_150 rfl ak_int ⟨(crf_R e68), trivial⟩ ⟨(crf_R e68), trivial⟩ e69 ?_
  obtain ⟨u70, e70, H⟩ := bs H
  obtain ⟨h71, e71, H⟩ := bs H
  refine j_putF (pc' := 155) dX12_init_152 rfl rfl fp_X12_67 tR (crf_R e70) e71 ?_
  refine j_aload_n (i := 0) (pc' := 156) dX12_init_155 rfl rfl 0 rfl ?_
  refine j_bipush (pc' := 158) dX12_init_156 rfl (by decide +kernel) ?_
  obtain ⟨u72, e72, H⟩ := bs H
  obtain ⟨p73, e73, H⟩ := bs H
  refine j_newIp (N := 12) (rc := 0) (rs := 0) (pc' := 160) rfl (by decide) dX12_init_158 rfl ak_int ⟨(crf_R e72), trivial⟩ ⟨(crf_R e72), trivial⟩ e73 ?_
  obtain ⟨u74, e74, H⟩ := bs H
  obtain ⟨h75, e75, H⟩ := bs H
  refine j_putF (pc' := 163) dX12_init_160 rfl rfl fp_X12_70 tR (crf_R e74) e75 ?_
  refine j_aload_n (i := 0) (pc' := 164) dX12_init_163 rfl rfl 0 rfl ?_
  refine j_iconst (pc' := 165) dX12_init_164 rfl ?_
  obtain ⟨u76, e76, H⟩ := bs H
  obtain ⟨h77, e77, H⟩ := bs H
  refine j_cVv (y := yX12_begin) (dY := 1) (vs := [vi 1]) (st := []) (q := a0) (pc' := 168) dX12_init_165 rfl ymX12_begin yvX12_begin ml_X12_73 (by decide) rfl (Nat.le_of_ble_eq_true rfl) (Nat.le_of_ble_eq_true rfl) e76 (tX12_begin a0 1 h75 ⟨by decide, by decide⟩ e77) (fun z77 => ?_)
  obtain rfl := Option.some.inj H
  exact j_vret dX12_init_168 ⟨rfl, rfl⟩
-- X12_no
noncomputable def fX12_no (a0 : Nat) (a1 : Int) (h : Hp) : Option (Int × Hp) :=
  (putV h 11 a0 19 (vi a1)).bind fun h1 => some ((-1), h1)
theorem tX12_no {L : Nat} {xs : Nat → Int32} {l : Launch} {res : Int × Hp} (a0 : Nat) (a1 : Int) (h : Hp) (ra1 : R32 a1) (H : fX12_no a0 a1 h = some res) : J L xs l RX12 cX12_no 2 false 1 (QI res) 0 0 0 (alv 0 [vr a0, vi a1]) [] h := by
  unfold fX12_no at H
  show J L xs l RX12 cX12_no 2 false 1 (QI res) 0 0 0 [(0, vr a0), (1, vi a1)] [] h
  refine j_aload_n (i := 0) (pc' := 1) dX12_no_0 rfl rfl 0 rfl ?_
  refine j_iload_n (i := 1) (pc' := 2) dX12_no_1 rfl rfl 1 rfl ?_
  obtain ⟨h1, e1, H⟩ := bs H
  refine j_putV (pc' := 5) dX12_no_2 rfl fp_X12_77 tI ra1 e1 ?_
  refine j_iconst (pc' := 6) dX12_no_5 rfl ?_
  obtain rfl := Option.some.inj H
  exact j_iret dX12_no_6 ⟨by decide, by decide⟩ ⟨rfl, rfl⟩
-- X12_n
noncomputable def fX12_n (a0 : Nat) (h : Hp) : Option (Int × Hp) :=
  (getR h 11 a0 0).bind fun v1 => (ald h 0 v1 0).bind fun v2 => some (v2, h)
theorem tX12_n {L : Nat} {xs : Nat → Int32} {l : Launch} {res : Int × Hp} (a0 : Nat) (h : Hp)  (H : fX12_n a0 h = some res) : J L xs l RX12 cX12_n 1 false 1 (QI res) 0 0 0 (alv 0 [vr a0]) [] h := by
  unfold fX12_n at H
  show J L xs l RX12 cX12_n 1 false 1 (QI res) 0 0 0 [(0, vr a0)] [] h
  refine j_aload_n (i := 0) (pc' := 1) dX12_n_0 rfl rfl 0 rfl ?_
  obtain ⟨v1, e1, H⟩ := bs H
  refine j_getR (pc' := 4) dX12_n_1 rfl fl_X12_9 e1 (fun r1 => ?_)
  refine j_iconst (pc' := 5) dX12_n_4 rfl ?_
  obtain ⟨v2, e2, H⟩ := bs H
  refine j_iald (pc' := 6) dX12_n_5 rfl e2 (fun r2 => ?_)
  obtain rfl := Option.some.inj H
  exact j_iret dX12_n_6 r2 ⟨rfl, rfl⟩
-- X12_copy
noncomputable def fX12_copy_171  (h : Hp) : Option (Hp) :=
  some h
theorem tX12_copy_171 {L : Nat} {xs : Nat → Int32} {l : Launch} {res : Hp}  (h : Hp)  (H : fX12_copy_171  h = some res) : J L xs l RX12 cX12_copy 4 false 1 (QV res) 0 0 171 [] [] h := by
  unfold fX12_copy_171 at H
  obtain rfl := Option.some.inj H
  exact j_vret dX12_copy_171 ⟨rfl, rfl⟩
noncomputable def fX12_copy_137 : Nat → Nat → Int → Int → Int → Hp → Option (Hp)
  | 0, _, _, _, _, _ => none
  | n + 1, x0, x1, x2, x3, h => if 12 ≤ x3 then (fX12_copy_171 h) else ((getR h 11 x0 5).bind fun v2 => (getR h 11 x0 5).bind fun v3 => (ald h 0 v3 ((12 * x1) + x3)).bind fun v4 => (ast h 0 v2 ((12 * x2) + x3) v4).bind fun h5 => (c32 (x3 + 1)).bind fun _ => fX12_copy_137 n x0 x1 x2 (x3 + 1) h5)
theorem tX12_copy_137 {L : Nat} {xs : Nat → Int32} {l : Launch} {res : Hp} : ∀ (n : Nat) (x0 : Nat) (x1 : Int) (x2 : Int) (x3 : Int) (h : Hp), R32 x1 → R32 x2 → R32 x3 → fX12_copy_137 n x0 x1 x2 x3 h = some res → J L xs l RX12 cX12_copy 4 false 1 (QV res) 0 0 137 [(0, vr x0), (1, vi x1), (2, vi x2), (3, vi x3)] [] h := by
  intro n
  induction n with
  | zero => intro x0 x1 x2 x3 h rx1 rx2 rx3 H; cases H
  | succ n ih =>
    intro x0 x1 x2 x3 h rx1 rx2 rx3 H
    rw [fX12_copy_137] at H
    refine j_iload_n (i := 3) (pc' := 138) dX12_copy_137 rfl rfl 3 rfl ?_
    refine j_bipush (pc' := 140) dX12_copy_138 rfl (by decide +kernel) ?_
    refine j_icmp_ge (tgt := 171) (pc' := 143) dX12_copy_140 (by decide) rfl rx3 ⟨by decide, by decide⟩ (fun c1 => ?_) (fun c1 => ?_)
    · rw [if_pos c1] at H
      refine j_sub (lv' := []) [] rfl ?_
      exact tX12_copy_171   h  H
    · rw [if_neg c1] at H
      refine j_aload_n (i := 0) (pc' := 144) dX12_copy_143 rfl rfl 0 rfl ?_
      obtain ⟨v2, e2, H⟩ := bs H
      refine j_getR (pc' := 147) dX12_copy_144 rfl fl_X12_26 e2 (fun r2 => ?_)
      refine j_bipush (pc' := 149) dX12_copy_147 rfl (by decide +kernel) ?_
      refine j_iload_n (i := 2) (pc' := 150) dX12_copy_149 rfl rfl 2 rfl ?_
      refine j_imul (pc' := 151) dX12_copy_150 rfl ?_
      refine j_iload_n (i := 3) (pc' := 152) dX12_copy_151 rfl rfl 3 rfl ?_
      refine j_iadd (pc' := 153) dX12_copy_152 rfl ?_
      refine j_aload_n (i := 0) (pc' := 154) dX12_copy_153 rfl rfl 0 rfl ?_
      obtain ⟨v3, e3, H⟩ := bs H
      refine j_getR (pc' := 157) dX12_copy_154 rfl fl_X12_26 e3 (fun r3 => ?_)
      refine j_bipush (pc' := 159) dX12_copy_157 rfl (by decide +kernel) ?_
      refine j_iload_n (i := 1) (pc' := 160) dX12_copy_159 rfl rfl 1 rfl ?_
      refine j_imul (pc' := 161) dX12_copy_160 rfl ?_
      refine j_iload_n (i := 3) (pc' := 162) dX12_copy_161 rfl rfl 3 rfl ?_
      refine j_iadd (pc' := 163) dX12_copy_162 rfl ?_
      obtain ⟨v4, e4, H⟩ := bs H
      refine j_iald (pc' := 164) dX12_copy_163 rfl e4 (fun r4 => ?_)
      obtain ⟨h5, e5, H⟩ := bs H
      refine j_iast (pc' := 165) dX12_copy_164 rfl r4 e5 ?_
      obtain ⟨u6, e6, H⟩ := bs H
      have r6 := c32_R e6
      refine j_iinc (k0 := 3) (lv' := [(0, vr x0), (1, vi x1), (2, vi x2), (3, vi (x3 + 1))]) (pc' := 168) dX12_copy_165 rfl rfl (by decide) [1, 2, 3, 0] rfl ?_
      refine j_goto (tgt := 137) dX12_copy_168 (by decide) ?_
      exact ih x0 x1 x2 (x3 + 1) h5 rx1 rx2 r6 H
noncomputable def fX12_copy_135 (x0 : Nat) (x1 : Int) (x2 : Int) (h : Hp) : Option (Hp) :=
  fX12_copy_137 FU x0 x1 x2 0 h
theorem tX12_copy_135 {L : Nat} {xs : Nat → Int32} {l : Launch} {res : Hp} (x0 : Nat) (x1 : Int) (x2 : Int) (h : Hp) (rx1 : R32 x1) (rx2 : R32 x2) (H : fX12_copy_135 x0 x1 x2 h = some res) : J L xs l RX12 cX12_copy 4 false 1 (QV res) 0 0 135 [(0, vr x0), (1, vi x1), (2, vi x2)] [] h := by
  unfold fX12_copy_135 at H
  refine j_iconst (pc' := 136) dX12_copy_135 rfl ?_
  refine j_istore_n (i := 3) (lv' := [(0, vr x0), (1, vi x1), (2, vi x2), (3, vi 0)]) (pc' := 137) dX12_copy_136 rfl rfl (by decide) [1, 2, 3, 0] rfl ?_
  exact tX12_copy_137   FU x0 x1 x2 0 h rx1 rx2 ⟨by decide, by decide⟩ H
noncomputable def fX12_copy_50 : Nat → Nat → Int → Int → Int → Hp → Option (Hp)
  | 0, _, _, _, _, _ => none
  | n + 1, x0, x1, x2, x3, h => if 144 ≤ x3 then (fX12_copy_135 x0 x1 x2 h) else ((getR h 11 x0 2).bind fun v2 => (getR h 11 x0 2).bind fun v3 => (ald h 0 v3 ((144 * x1) + x3)).bind fun v4 => (ast h 0 v2 ((144 * x2) + x3) v4).bind fun h5 => (getR h5 11 x0 3).bind fun v6 => (getR h5 11 x0 3).bind fun v7 => (ald h5 0 v7 ((144 * x1) + x3)).bind fun v8 => (ast h5 0 v6 ((144 * x2) + x3) v8).bind fun h9 => (getR h9 11 x0 4).bind fun v10 => (getR h9 11 x0 4).bind fun v11 => (ald h9 2 v11 ((144 * x1) + x3)).bind fun v12 => (cbo v12).bind fun _ => (ast h9 2 v10 ((144 * x2) + x3) v12).bind fun h14 => (c32 (x3 + 1)).bind fun _ => fX12_copy_50 n x0 x1 x2 (x3 + 1) h14)
theorem tX12_copy_50 {L : Nat} {xs : Nat → Int32} {l : Launch} {res : Hp} : ∀ (n : Nat) (x0 : Nat) (x1 : Int) (x2 : Int) (x3 : Int) (h : Hp), R32 x1 → R32 x2 → R32 x3 → fX12_copy_50 n x0 x1 x2 x3 h = some res → J L xs l RX12 cX12_copy 4 false 1 (QV res) 0 0 50 [(0, vr x0), (1, vi x1), (2, vi x2), (3, vi x3)] [] h := by
  intro n
  induction n with
  | zero => intro x0 x1 x2 x3 h rx1 rx2 rx3 H; cases H
  | succ n ih =>
    intro x0 x1 x2 x3 h rx1 rx2 rx3 H
    rw [fX12_copy_50] at H
    refine j_iload_n (i := 3) (pc' := 51) dX12_copy_50 rfl rfl 3 rfl ?_
    refine j_sipush (pc' := 54) dX12_copy_51 rfl (by decide +kernel) ?_
    refine j_icmp_ge (tgt := 135) (pc' := 57) dX12_copy_54 (by decide) rfl rx3 ⟨by decide, by decide⟩ (fun c1 => ?_) (fun c1 => ?_)
    · rw [if_pos c1] at H
      refine j_sub (lv' := [(0, vr x0), (1, vi x1), (2, vi x2)]) [0, 1, 2] rfl ?_
      exact tX12_copy_135   x0 x1 x2 h rx1 rx2 H
    · rw [if_neg c1] at H
      refine j_aload_n (i := 0) (pc' := 58) dX12_copy_57 rfl rfl 0 rfl ?_
      obtain ⟨v2, e2, H⟩ := bs H
      refine j_getR (pc' := 61) dX12_copy_58 rfl fl_X12_16 e2 (fun r2 => ?_)
      refine j_sipush (pc' := 64) dX12_copy_61 rfl (by decide +kernel) ?_
      refine j_iload_n (i := 2) (pc' := 65) dX12_copy_64 rfl rfl 2 rfl ?_
      refine j_imul (pc' := 66) dX12_copy_65 rfl ?_
      refine j_iload_n (i := 3) (pc' := 67) dX12_copy_66 rfl rfl 3 rfl ?_
      refine j_iadd (pc' := 68) dX12_copy_67 rfl ?_
      refine j_aload_n (i := 0) (pc' := 69) dX12_copy_68 rfl rfl 0 rfl ?_
      obtain ⟨v3, e3, H⟩ := bs H
      refine j_getR (pc' := 72) dX12_copy_69 rfl fl_X12_16 e3 (fun r3 => ?_)
      refine j_sipush (pc' := 75) dX12_copy_72 rfl (by decide +kernel) ?_
      refine j_iload_n (i := 1) (pc' := 76) dX12_copy_75 rfl rfl 1 rfl ?_
      refine j_imul (pc' := 77) dX12_copy_76 rfl ?_
      refine j_iload_n (i := 3) (pc' := 78) dX12_copy_77 rfl rfl 3 rfl ?_
      refine j_iadd (pc' := 79) dX12_copy_78 rfl ?_
      obtain ⟨v4, e4, H⟩ := bs H
      refine j_iald (pc' := 80) dX12_copy_79 rfl e4 (fun r4 => ?_)
      obtain ⟨h5, e5, H⟩ := bs H
      refine j_iast (pc' := 81) dX12_copy_80 rfl r4 e5 ?_
      refine j_aload_n (i := 0) (pc' := 82) dX12_copy_81 rfl rfl 0 rfl ?_
      obtain ⟨v6, e6, H⟩ := bs H
      refine j_getR (pc' := 85) dX12_copy_82 rfl fl_X12_19 e6 (fun r6 => ?_)
      refine j_sipush (pc' := 88) dX12_copy_85 rfl (by decide +kernel) ?_
      refine j_iload_n (i := 2) (pc' := 89) dX12_copy_88 rfl rfl 2 rfl ?_
      refine j_imul (pc' := 90) dX12_copy_89 rfl ?_
      refine j_iload_n (i := 3) (pc' := 91) dX12_copy_90 rfl rfl 3 rfl ?_
      refine j_iadd (pc' := 92) dX12_copy_91 rfl ?_
      refine j_aload_n (i := 0) (pc' := 93) dX12_copy_92 rfl rfl 0 rfl ?_
      obtain ⟨v7, e7, H⟩ := bs H
      refine j_getR (pc' := 96) dX12_copy_93 rfl fl_X12_19 e7 (fun r7 => ?_)
      refine j_sipush (pc' := 99) dX12_copy_96 rfl (by decide +kernel) ?_
      refine j_iload_n (i := 1) (pc' := 100) dX12_copy_99 rfl rfl 1 rfl ?_
      refine j_imul (pc' := 101) dX12_copy_100 rfl ?_
      refine j_iload_n (i := 3) (pc' := 102) dX12_copy_101 rfl rfl 3 rfl ?_
      refine j_iadd (pc' := 103) dX12_copy_102 rfl ?_
      obtain ⟨v8, e8, H⟩ := bs H
      refine j_iald (pc' := 104) dX12_copy_103 rfl e8 (fun r8 => ?_)
      obtain ⟨h9, e9, H⟩ := bs H
      refine j_iast (pc' := 105) dX12_copy_104 rfl r8 e9 ?_
      refine j_aload_n (i := 0) (pc' := 106) dX12_copy_105 rfl rfl 0 rfl ?_
      obtain ⟨v10, e10, H⟩ := bs H
      refine j_getR (pc' := 109) dX12_copy_106 rfl fl_X12_22 e10 (fun r10 => ?_)
      refine j_sipush (pc' := 112) dX12_copy_109 rfl (by decide +kernel) ?_
      refine j_iload_n (i := 2) (pc' := 113) dX12_copy_112 rfl rfl 2 rfl ?_
      refine j_imul (pc' := 114) dX12_copy_113 rfl ?_
      refine j_iload_n (i := 3) (pc' := 115) dX12_copy_114 rfl rfl 3 rfl ?_
      refine j_iadd (pc' := 116) dX12_copy_115 rfl ?_
      refine j_aload_n (i := 0) (pc' := 117) dX12_copy_116 rfl rfl 0 rfl ?_
      obtain ⟨v11, e11, H⟩ := bs H
      refine j_getR (pc' := 120) dX12_copy_117 rfl fl_X12_22 e11 (fun r11 => ?_)
      refine j_sipush (pc' := 123) dX12_copy_120 rfl (by decide +kernel) ?_
      refine j_iload_n (i := 1) (pc' := 124) dX12_copy_123 rfl rfl 1 rfl ?_
      refine j_imul (pc' := 125) dX12_copy_124 rfl ?_
      refine j_iload_n (i := 3) (pc' := 126) dX12_copy_125 rfl rfl 3 rfl ?_
      refine j_iadd (pc' := 127) dX12_copy_126 rfl ?_
      obtain ⟨v12, e12, H⟩ := bs H
      refine j_zald (pc' := 128) dX12_copy_127 rfl e12 (fun r12 => ?_)
      obtain ⟨u13, e13, H⟩ := bs H
      obtain ⟨h14, e14, H⟩ := bs H
      refine j_zast (pc' := 129) dX12_copy_128 rfl r12 (cbo_R e13) e14 ?_
      obtain ⟨u15, e15, H⟩ := bs H
      have r15 := c32_R e15
      refine j_iinc (k0 := 3) (lv' := [(0, vr x0), (1, vi x1), (2, vi x2), (3, vi (x3 + 1))]) (pc' := 132) dX12_copy_129 rfl rfl (by decide) [1, 2, 3, 0] rfl ?_
      refine j_goto (tgt := 50) dX12_copy_132 (by decide) ?_
      exact ih x0 x1 x2 (x3 + 1) h14 rx1 rx2 r15 H
noncomputable def fX12_copy_48 (x0 : Nat) (x1 : Int) (x2 : Int) (h : Hp) : Option (Hp) :=
  fX12_copy_50 FU x0 x1 x2 0 h
theorem tX12_copy_48 {L : Nat} {xs : Nat → Int32} {l : Launch} {res : Hp} (x0 : Nat) (x1 : Int) (x2 : Int) (h : Hp) (rx1 : R32 x1) (rx2 : R32 x2) (H : fX12_copy_48 x0 x1 x2 h = some res) : J L xs l RX12 cX12_copy 4 false 1 (QV res) 0 0 48 [(0, vr x0), (1, vi x1), (2, vi x2)] [] h := by
  unfold fX12_copy_48 at H
  refine j_iconst (pc' := 49) dX12_copy_48 rfl ?_
  refine j_istore_n (i := 3) (lv' := [(0, vr x0), (1, vi x1), (2, vi x2), (3, vi 0)]) (pc' := 50) dX12_copy_49 rfl rfl (by decide) [1, 2, 3, 0] rfl ?_
  exact tX12_copy_50   FU x0 x1 x2 0 h rx1 rx2 ⟨by decide, by decide⟩ H
noncomputable def fX12_copy_14 : Nat → Nat → Int → Int → Int → Hp → Option (Hp)
  | 0, _, _, _, _, _ => none
  | n + 1, x0, x1, x2, x3, h => if 48 ≤ x3 then (fX12_copy_48 x0 x1 x2 h) else ((getR h 11 x0 1).bind fun v2 => (getR h 11 x0 1).bind fun v3 => (ald h 0 v3 ((48 * x1) + x3)).bind fun v4 => (ast h 0 v2 ((48 * x2) + x3) v4).bind fun h5 => (c32 (x3 + 1)).bind fun _ => fX12_copy_14 n x0 x1 x2 (x3 + 1) h5)
theorem tX12_copy_14 {L : Nat} {xs : Nat → Int32} {l : Launch} {res : Hp} : ∀ (n : Nat) (x0 : Nat) (x1 : Int) (x2 : Int) (x3 : Int) (h : Hp), R32 x1 → R32 x2 → R32 x3 → fX12_copy_14 n x0 x1 x2 x3 h = some res → J L xs l RX12 cX12_copy 4 false 1 (QV res) 0 0 14 [(0, vr x0), (1, vi x1), (2, vi x2), (3, vi x3)] [] h := by
  intro n
  induction n with
  | zero => intro x0 x1 x2 x3 h rx1 rx2 rx3 H; cases H
  | succ n ih =>
    intro x0 x1 x2 x3 h rx1 rx2 rx3 H
    rw [fX12_copy_14] at H
    refine j_iload_n (i := 3) (pc' := 15) dX12_copy_14 rfl rfl 3 rfl ?_
    refine j_bipush (pc' := 17) dX12_copy_15 rfl (by decide +kernel) ?_
    refine j_icmp_ge (tgt := 48) (pc' := 20) dX12_copy_17 (by decide) rfl rx3 ⟨by decide, by decide⟩ (fun c1 => ?_) (fun c1 => ?_)
    · rw [if_pos c1] at H
      refine j_sub (lv' := [(0, vr x0), (1, vi x1), (2, vi x2)]) [0, 1, 2] rfl ?_
      exact tX12_copy_48   x0 x1 x2 h rx1 rx2 H
    · rw [if_neg c1] at H
      refine j_aload_n (i := 0) (pc' := 21) dX12_copy_20 rfl rfl 0 rfl ?_
      obtain ⟨v2, e2, H⟩ := bs H
      refine j_getR (pc' := 24) dX12_copy_21 rfl fl_X12_13 e2 (fun r2 => ?_)
      refine j_bipush (pc' := 26) dX12_copy_24 rfl (by decide +kernel) ?_
      refine j_iload_n (i := 2) (pc' := 27) dX12_copy_26 rfl rfl 2 rfl ?_
      refine j_imul (pc' := 28) dX12_copy_27 rfl ?_
      refine j_iload_n (i := 3) (pc' := 29) dX12_copy_28 rfl rfl 3 rfl ?_
      refine j_iadd (pc' := 30) dX12_copy_29 rfl ?_
      refine j_aload_n (i := 0) (pc' := 31) dX12_copy_30 rfl rfl 0 rfl ?_
      obtain ⟨v3, e3, H⟩ := bs H
      refine j_getR (pc' := 34) dX12_copy_31 rfl fl_X12_13 e3 (fun r3 => ?_)
      refine j_bipush (pc' := 36) dX12_copy_34 rfl (by decide +kernel) ?_
      refine j_iload_n (i := 1) (pc' := 37) dX12_copy_36 rfl rfl 1 rfl ?_
      refine j_imul (pc' := 38) dX12_copy_37 rfl ?_
      refine j_iload_n (i := 3) (pc' := 39) dX12_copy_38 rfl rfl 3 rfl ?_
      refine j_iadd (pc' := 40) dX12_copy_39 rfl ?_
      obtain ⟨v4, e4, H⟩ := bs H
      refine j_iald (pc' := 41) dX12_copy_40 rfl e4 (fun r4 => ?_)
      obtain ⟨h5, e5, H⟩ := bs H
      refine j_iast (pc' := 42) dX12_copy_41 rfl r4 e5 ?_
      obtain ⟨u6, e6, H⟩ := bs H
      have r6 := c32_R e6
      refine j_iinc (k0 := 3) (lv' := [(0, vr x0), (1, vi x1), (2, vi x2), (3, vi (x3 + 1))]) (pc' := 45) dX12_copy_42 rfl rfl (by decide) [1, 2, 3, 0] rfl ?_
      refine j_goto (tgt := 14) dX12_copy_45 (by decide) ?_
      exact ih x0 x1 x2 (x3 + 1) h5 rx1 rx2 r6 H
noncomputable def fX12_copy (a0 : Nat) (a1 : Int) (a2 : Int) (h : Hp) : Option (Hp) :=
  (getR h 11 a0 0).bind fun v1 => (getR h 11 a0 0).bind fun v2 => (ald h 0 v2 a1).bind fun v3 => (ast h 0 v1 a2 v3).bind fun h4 => fX12_copy_14 FU a0 a1 a2 0 h4
theorem tX12_copy {L : Nat} {xs : Nat → Int32} {l : Launch} {res : Hp} (a0 : Nat) (a1 : Int) (a2 : Int) (h : Hp) (ra1 : R32 a1) (ra2 : R32 a2) (H : fX12_copy a0 a1 a2 h = some res) : J L xs l RX12 cX12_copy 4 false 1 (QV res) 0 0 0 (alv 0 [vr a0, vi a1, vi a2]) [] h := by
  unfold fX12_copy at H
  show J L xs l RX12 cX12_copy 4 false 1 (QV res) 0 0 0 [(0, vr a0), (1, vi a1), (2, vi a2)] [] h
  refine j_aload_n (i := 0) (pc' := 1) dX12_copy_0 rfl rfl 0 rfl ?_
  obtain ⟨v1, e1, H⟩ := bs H
  refine j_getR (pc' := 4) dX12_copy_1 rfl fl_X12_9 e1 (fun r1 => ?_)
  refine j_iload_n (i := 2) (pc' := 5) dX12_copy_4 rfl rfl 2 rfl ?_
  refine j_aload_n (i := 0) (pc' := 6) dX12_copy_5 rfl rfl 0 rfl ?_
  obtain ⟨v2, e2, H⟩ := bs H
  refine j_getR (pc' := 9) dX12_copy_6 rfl fl_X12_9 e2 (fun r2 => ?_)
  refine j_iload_n (i := 1) (pc' := 10) dX12_copy_9 rfl rfl 1 rfl ?_
  obtain ⟨v3, e3, H⟩ := bs H
  refine j_iald (pc' := 11) dX12_copy_10 rfl e3 (fun r3 => ?_)
  obtain ⟨h4, e4, H⟩ := bs H
  refine j_iast (pc' := 12) dX12_copy_11 rfl r3 e4 ?_
  refine j_iconst (pc' := 13) dX12_copy_12 rfl ?_
  refine j_istore_n (i := 3) (lv' := [(0, vr a0), (1, vi a1), (2, vi a2), (3, vi 0)]) (pc' := 14) dX12_copy_13 rfl rfl (by decide) [1, 2, 3, 0] rfl ?_
  exact tX12_copy_14   FU a0 a1 a2 0 h4 ra1 ra2 ⟨by decide, by decide⟩ H
-- X12_change
noncomputable def fX12_change_35 (x0 : Nat) (h : Hp) : Option (Hp) :=
  (getI h 11 x0 7).bind fun v1 => (getI h 11 x0 6).bind fun v2 => (c32 (1 + (bRem ((v1 + v2) - 1) 20))).bind fun _ => (cob h 11 x0).bind fun _ => (fX12_copy x0 0 (1 + (bRem ((v1 + v2) - 1) 20)) h).bind fun h5 => some h5
theorem tX12_change_35 {L : Nat} {xs : Nat → Int32} {l : Launch} {res : Hp} (x0 : Nat) (h : Hp)  (H : fX12_change_35 x0 h = some res) : J L xs l RX12 cX12_change 1 false 2 (QV res) 0 0 35 [(0, vr x0)] [] h := by
  unfold fX12_change_35 at H
  refine j_aload_n (i := 0) (pc' := 36) dX12_change_35 rfl rfl 0 rfl ?_
  refine j_iconst (pc' := 37) dX12_change_36 rfl ?_
  refine j_iconst (pc' := 38) dX12_change_37 rfl ?_
  refine j_aload_n (i := 0) (pc' := 39) dX12_change_38 rfl rfl 0 rfl ?_
  obtain ⟨v1, e1, H⟩ := bs H
  refine j_getI (pc' := 42) dX12_change_39 rfl fl_X12_83 e1 (fun r1 => ?_)
  refine j_aload_n (i := 0) (pc' := 43) dX12_change_42 rfl rfl 0 rfl ?_
  obtain ⟨v2, e2, H⟩ := bs H
  refine j_getI (pc' := 46) dX12_change_43 rfl fl_X12_80 e2 (fun r2 => ?_)
  refine j_iadd (pc' := 47) dX12_change_46 rfl ?_
  refine j_iconst (pc' := 48) dX12_change_47 rfl ?_
  refine j_isub (pc' := 49) dX12_change_48 rfl ?_
  refine j_bipush (pc' := 51) dX12_change_49 rfl (by decide +kernel) ?_
  refine j_irem (pc' := 52) dX12_change_51 rfl ⟨by decide, by decide⟩ (by decide) ?_
  refine j_iadd (pc' := 53) dX12_change_52 rfl ?_
  obtain ⟨u3, e3, H⟩ := bs H
  have r3 := c32_R e3
  obtain ⟨u4, e4, H⟩ := bs H
  obtain ⟨h5, e5, H⟩ := bs H
  refine j_cVv (y := yX12_copy) (dY := 1) (vs := [vi 0, vi (1 + (bRem ((v1 + v2) - 1) 20))]) (st := []) (q := x0) (pc' := 56) dX12_change_53 rfl ymX12_copy yvX12_copy ml_X12_86 (by decide) rfl (Nat.le_of_ble_eq_true rfl) (Nat.le_of_ble_eq_true rfl) e4 (tX12_copy x0 0 (1 + (bRem ((v1 + v2) - 1) 20)) h ⟨by decide, by decide⟩ r3 e5) (fun z5 => ?_)
  obtain rfl := Option.some.inj H
  exact j_vret dX12_change_56 ⟨rfl, rfl⟩
noncomputable def fX12_change (a0 : Nat) (h : Hp) : Option (Hp) :=
  (getI h 11 a0 6).bind fun v1 => if v1 = 20 then ((getI h 11 a0 7).bind fun v6 => (putV h 11 a0 7 (vi (bRem (v6 + 1) 20))).bind fun h7 => fX12_change_35 a0 h7) else ((getI h 11 a0 6).bind fun v3 => (c32 (v3 + 1)).bind fun _ => (putV h 11 a0 6 (vi (v3 + 1))).bind fun h5 => fX12_change_35 a0 h5)
theorem tX12_change {L : Nat} {xs : Nat → Int32} {l : Launch} {res : Hp} (a0 : Nat) (h : Hp)  (H : fX12_change a0 h = some res) : J L xs l RX12 cX12_change 1 false 2 (QV res) 0 0 0 (alv 0 [vr a0]) [] h := by
  unfold fX12_change at H
  show J L xs l RX12 cX12_change 1 false 2 (QV res) 0 0 0 [(0, vr a0)] [] h
  refine j_aload_n (i := 0) (pc' := 1) dX12_change_0 rfl rfl 0 rfl ?_
  obtain ⟨v1, e1, H⟩ := bs H
  refine j_getI (pc' := 4) dX12_change_1 rfl fl_X12_80 e1 (fun r1 => ?_)
  refine j_bipush (pc' := 6) dX12_change_4 rfl (by decide +kernel) ?_
  refine j_icmp_ne (tgt := 25) (pc' := 9) dX12_change_6 (by decide) rfl r1 ⟨by decide, by decide⟩ (fun c2 => ?_) (fun c2 => ?_)
  · rw [if_neg c2] at H
    refine j_aload_n (i := 0) (pc' := 26) dX12_change_25 rfl rfl 0 rfl ?_
    refine j_dup (pc' := 27) dX12_change_26 rfl rfl ?_
    obtain ⟨v3, e3, H⟩ := bs H
    refine j_getI (pc' := 30) dX12_change_27 rfl fl_X12_80 e3 (fun r3 => ?_)
    refine j_iconst (pc' := 31) dX12_change_30 rfl ?_
    refine j_iadd (pc' := 32) dX12_change_31 rfl ?_
    obtain ⟨u4, e4, H⟩ := bs H
    have r4 := c32_R e4
    obtain ⟨h5, e5, H⟩ := bs H
    refine j_putV (pc' := 35) dX12_change_32 rfl fp_X12_80 tI r4 e5 ?_
    exact tX12_change_35   a0 h5  H
  · rw [if_pos c2] at H
    refine j_aload_n (i := 0) (pc' := 10) dX12_change_9 rfl rfl 0 rfl ?_
    refine j_aload_n (i := 0) (pc' := 11) dX12_change_10 rfl rfl 0 rfl ?_
    obtain ⟨v6, e6, H⟩ := bs H
    refine j_getI (pc' := 14) dX12_change_11 rfl fl_X12_83 e6 (fun r6 => ?_)
    refine j_iconst (pc' := 15) dX12_change_14 rfl ?_
    refine j_iadd (pc' := 16) dX12_change_15 rfl ?_
    refine j_bipush (pc' := 18) dX12_change_16 rfl (by decide +kernel) ?_
    refine j_irem (pc' := 19) dX12_change_18 rfl ⟨by decide, by decide⟩ (by decide) ?_
    obtain ⟨h7, e7, H⟩ := bs H
    refine j_putV (pc' := 22) dX12_change_19 rfl fp_X12_83 tI (R32_to _) e7 ?_
    refine j_goto (tgt := 35) dX12_change_22 (by decide) ?_
    exact tX12_change_35   a0 h7  H
-- X12_isThing
noncomputable def fX12_isThing_17 (s0 : Int) (h : Hp) : Option (Int × Hp) :=
  (cbo s0).bind fun _ => some (s0, h)
theorem tX12_isThing_17 {L : Nat} {xs : Nat → Int32} {l : Launch} {res : Int × Hp} (s0 : Int) (h : Hp) (rs0 : R32 s0) (H : fX12_isThing_17 s0 h = some res) : J L xs l RX12 cX12_isThing 2 false 2 (QB res) 0 0 17 [] [vi s0] h := by
  unfold fX12_isThing_17 at H
  obtain ⟨u1, e1, H⟩ := bs H
  obtain rfl := Option.some.inj H
  exact j_iret dX12_isThing_17 rs0 ⟨rfl, rfl, cbo_R e1⟩
noncomputable def fX12_isThing_16  (h : Hp) : Option (Int × Hp) :=
  fX12_isThing_17 0 h
theorem tX12_isThing_16 {L : Nat} {xs : Nat → Int32} {l : Launch} {res : Int × Hp}  (h : Hp)  (H : fX12_isThing_16  h = some res) : J L xs l RX12 cX12_isThing 2 false 2 (QB res) 0 0 16 [] [] h := by
  unfold fX12_isThing_16 at H
  refine j_iconst (pc' := 17) dX12_isThing_16 rfl ?_
  exact tX12_isThing_17   0 h ⟨by decide, by decide⟩ H
noncomputable def fX12_isThing (a0 : Nat) (a1 : Int) (h : Hp) : Option (Int × Hp) :=
  if a1 < 0 then (fX12_isThing_16 h) else ((cob h 11 a0).bind fun _ => (fX12_n a0 h).bind fun p3 => if p3.1 ≤ a1 then (fX12_isThing_16 p3.2) else (fX12_isThing_17 1 p3.2))
theorem tX12_isThing {L : Nat} {xs : Nat → Int32} {l : Launch} {res : Int × Hp} (a0 : Nat) (a1 : Int) (h : Hp) (ra1 : R32 a1) (H : fX12_isThing a0 a1 h = some res) : J L xs l RX12 cX12_isThing 2 false 2 (QB res) 0 0 0 (alv 0 [vr a0, vi a1]) [] h := by
  unfold fX12_isThing at H
  show J L xs l RX12 cX12_isThing 2 false 2 (QB res) 0 0 0 [(0, vr a0), (1, vi a1)] [] h
  refine j_iload_n (i := 1) (pc' := 1) dX12_isThing_0 rfl rfl 1 rfl ?_
  refine j_if_lt (tgt := 16) (pc' := 4) dX12_isThing_1 (by decide) rfl ra1 (fun c1 => ?_) (fun c1 => ?_)
  · rw [if_pos c1] at H
    refine j_sub (lv' := []) [] rfl ?_
    exact tX12_isThing_16   h  H
  · rw [if_neg c1] at H
    refine j_iload_n (i := 1) (pc' := 5) dX12_isThing_4 rfl rfl 1 rfl ?_
    refine j_aload_n (i := 0) (pc' := 6) dX12_isThing_5 rfl rfl 0 rfl ?_
    obtain ⟨u2, e2, H⟩ := bs H
    obtain ⟨p3, e3, H⟩ := bs H
    refine j_cVi (y := yX12_n) (dY := 1) (vs := []) (st := [vi a1]) (q := a0) (pc' := 9) dX12_isThing_6 rfl ymX12_n yvX12_n ml_X12_90 (by decide) rfl (Nat.le_of_ble_eq_true rfl) (Nat.le_of_ble_eq_true rfl) e2 (tX12_n a0 h e3) (fun r3 z3 => ?_)
    refine j_icmp_ge (tgt := 16) (pc' := 12) dX12_isThing_9 (by decide) rfl ra1 r3 (fun c4 => ?_) (fun c4 => ?_)
    · rw [if_pos c4] at H
      refine j_sub (lv' := []) [] rfl ?_
      exact tX12_isThing_16   p3.2  H
    · rw [if_neg c4] at H
      refine j_iconst (pc' := 13) dX12_isThing_12 rfl ?_
      refine j_goto (tgt := 17) dX12_isThing_13 (by decide) ?_
      refine j_sub (lv' := []) [] rfl ?_
      exact tX12_isThing_17   1 p3.2 ⟨by decide, by decide⟩ H
-- X12_arePair
noncomputable def fX12_arePair_26 (s0 : Int) (h : Hp) : Option (Int × Hp) :=
  (cbo s0).bind fun _ => some (s0, h)
theorem tX12_arePair_26 {L : Nat} {xs : Nat → Int32} {l : Launch} {res : Int × Hp} (s0 : Int) (h : Hp) (rs0 : R32 s0) (H : fX12_arePair_26 s0 h = some res) : J L xs l RX12 cX12_arePair 3 false 3 (QB res) 0 0 26 [] [vi s0] h := by
  unfold fX12_arePair_26 at H
  obtain ⟨u1, e1, H⟩ := bs H
  obtain rfl := Option.some.inj H
  exact j_iret dX12_arePair_26 rs0 ⟨rfl, rfl, cbo_R e1⟩
noncomputable def fX12_arePair_25  (h : Hp) : Option (Int × Hp) :=
  fX12_arePair_26 0 h
theorem tX12_arePair_25 {L : Nat} {xs : Nat → Int32} {l : Launch} {res : Int × Hp}  (h : Hp)  (H : fX12_arePair_25  h = some res) : J L xs l RX12 cX12_arePair 3 false 3 (QB res) 0 0 25 [] [] h := by
  unfold fX12_arePair_25 at H
  refine j_iconst (pc' := 26) dX12_arePair_25 rfl ?_
  exact tX12_arePair_26   0 h ⟨by decide, by decide⟩ H
noncomputable def fX12_arePair (a0 : Nat) (a1 : Int) (a2 : Int) (h : Hp) : Option (Int × Hp) :=
  (cob h 11 a0).bind fun _ => (fX12_isThing a0 a1 h).bind fun p2 => if p2.1 = 0 then (fX12_arePair_25 p2.2) else ((cob p2.2 11 a0).bind fun _ => (fX12_isThing a0 a2 p2.2).bind fun p5 => if p5.1 = 0 then (fX12_arePair_25 p5.2) else (if a1 = a2 then (fX12_arePair_25 p5.2) else (fX12_arePair_26 1 p5.2)))
theorem tX12_arePair {L : Nat} {xs : Nat → Int32} {l : Launch} {res : Int × Hp} (a0 : Nat) (a1 : Int) (a2 : Int) (h : Hp) (ra1 : R32 a1) (ra2 : R32 a2) (H : fX12_arePair a0 a1 a2 h = some res) : J L xs l RX12 cX12_arePair 3 false 3 (QB res) 0 0 0 (alv 0 [vr a0, vi a1, vi a2]) [] h := by
  unfold fX12_arePair at H
  show J L xs l RX12 cX12_arePair 3 false 3 (QB res) 0 0 0 [(0, vr a0), (1, vi a1), (2, vi a2)] [] h
  refine j_aload_n (i := 0) (pc' := 1) dX12_arePair_0 rfl rfl 0 rfl ?_
  refine j_iload_n (i := 1) (pc' := 2) dX12_arePair_1 rfl rfl 1 rfl ?_
  obtain ⟨u1, e1, H⟩ := bs H
  obtain ⟨p2, e2, H⟩ := bs H
  refine j_cVb (y := yX12_isThing) (dY := 2) (vs := [vi a1]) (st := []) (q := a0) (pc' := 5) dX12_arePair_2 rfl ymX12_isThing yvX12_isThing ml_X12_94 (by decide) rfl (Nat.le_of_ble_eq_true rfl) (Nat.le_of_ble_eq_true rfl) e1 (tX12_isThing a0 a1 h ra1 e2) (fun r2 b2 z2 => ?_)
  refine j_if_eq (tgt := 25) (pc' := 8) dX12_arePair_5 (by decide) rfl r2 (fun c3 => ?_) (fun c3 => ?_)
  · rw [if_pos c3] at H
    refine j_sub (lv' := []) [] rfl ?_
    exact tX12_arePair_25   p2.2  H
  · rw [if_neg c3] at H
    refine j_aload_n (i := 0) (pc' := 9) dX12_arePair_8 rfl rfl 0 rfl ?_
    refine j_iload_n (i := 2) (pc' := 10) dX12_arePair_9 rfl rfl 2 rfl ?_
    obtain ⟨u4, e4, H⟩ := bs H
    obtain ⟨p5, e5, H⟩ := bs H
    refine j_cVb (y := yX12_isThing) (dY := 2) (vs := [vi a2]) (st := []) (q := a0) (pc' := 13) dX12_arePair_10 rfl ymX12_isThing yvX12_isThing ml_X12_94 (by decide) rfl (Nat.le_of_ble_eq_true rfl) (Nat.le_of_ble_eq_true rfl) e4 (tX12_isThing a0 a2 p2.2 ra2 e5) (fun r5 b5 z5 => ?_)
    refine j_if_eq (tgt := 25) (pc' := 16) dX12_arePair_13 (by decide) rfl r5 (fun c6 => ?_) (fun c6 => ?_)
    · rw [if_pos c6] at H
      refine j_sub (lv' := []) [] rfl ?_
      exact tX12_arePair_25   p5.2  H
    · rw [if_neg c6] at H
      refine j_iload_n (i := 1) (pc' := 17) dX12_arePair_16 rfl rfl 1 rfl ?_
      refine j_iload_n (i := 2) (pc' := 18) dX12_arePair_17 rfl rfl 2 rfl ?_
      refine j_icmp_eq (tgt := 25) (pc' := 21) dX12_arePair_18 (by decide) rfl ra1 ra2 (fun c7 => ?_) (fun c7 => ?_)
      · rw [if_pos c7] at H
        refine j_sub (lv' := []) [] rfl ?_
        exact tX12_arePair_25   p5.2  H
      · rw [if_neg c7] at H
        refine j_iconst (pc' := 22) dX12_arePair_21 rfl ?_
        refine j_goto (tgt := 26) dX12_arePair_22 (by decide) ?_
        refine j_sub (lv' := []) [] rfl ?_
        exact tX12_arePair_26   1 p5.2 ⟨by decide, by decide⟩ H
-- X12_things
noncomputable def fX12_things_16 (x0 : Nat) (h : Hp) : Option (Int × Hp) :=
  (cob h 11 x0).bind fun _ => (fX12_no x0 1 h).bind fun p2 => some (0, p2.2)
theorem tX12_things_16 {L : Nat} {xs : Nat → Int32} {l : Launch} {res : Int × Hp} (x0 : Nat) (h : Hp)  (H : fX12_things_16 x0 h = some res) : J L xs l RX12 cX12_things 2 false 3 (QB res) 0 0 16 [(0, vr x0)] [] h := by
  unfold fX12_things_16 at H
  refine j_aload_n (i := 0) (pc' := 17) dX12_things_16 rfl rfl 0 rfl ?_
  refine j_iconst (pc' := 18) dX12_things_17 rfl ?_
  obtain ⟨u1, e1, H⟩ := bs H
  obtain ⟨p2, e2, H⟩ := bs H
  refine j_cVi (y := yX12_no) (dY := 1) (vs := [vi 1]) (st := []) (q := x0) (pc' := 21) dX12_things_18 rfl ymX12_no yvX12_no ml_X12_98 (by decide) rfl (Nat.le_of_ble_eq_true rfl) (Nat.le_of_ble_eq_true rfl) e1 (tX12_no x0 1 h ⟨by decide, by decide⟩ e2) (fun r2 z2 => ?_)
  refine j_pop (pc' := 22) dX12_things_21 rfl rfl ?_
  refine j_iconst (pc' := 23) dX12_things_22 rfl ?_
  obtain rfl := Option.some.inj H
  exact j_iret dX12_things_23 ⟨by decide, by decide⟩ ⟨rfl, rfl, Or.inl rfl⟩
noncomputable def fX12_things (a0 : Nat) (a1 : Int) (h : Hp) : Option (Int × Hp) :=
  (putV h 11 a0 19 (vi 0)).bind fun h1 => if a1 < 1 then (fX12_things_16 a0 h1) else (if a1 ≤ 12 then ((cob h1 11 a0).bind fun _ => (fX12_change a0 h1).bind fun h5 => (cob h5 11 a0).bind fun _ => (fX12_begin a0 a1 h5).bind fun h7 => some (1, h7)) else (fX12_things_16 a0 h1))
theorem tX12_things {L : Nat} {xs : Nat → Int32} {l : Launch} {res : Int × Hp} (a0 : Nat) (a1 : Int) (h : Hp) (ra1 : R32 a1) (H : fX12_things a0 a1 h = some res) : J L xs l RX12 cX12_things 2 false 3 (QB res) 0 0 0 (alv 0 [vr a0, vi a1]) [] h := by
  unfold fX12_things at H
  show J L xs l RX12 cX12_things 2 false 3 (QB res) 0 0 0 [(0, vr a0), (1, vi a1)] [] h
  refine j_aload_n (i := 0) (pc' := 1) dX12_things_0 rfl rfl 0 rfl ?_
  refine j_iconst (pc' := 2) dX12_things_1 rfl ?_
  obtain ⟨h1, e1, H⟩ := bs H
  refine j_putV (pc' := 5) dX12_things_2 rfl fp_X12_77 tI ⟨by decide, by decide⟩ e1 ?_
  refine j_iload_n (i := 1) (pc' := 6) dX12_things_5 rfl rfl 1 rfl ?_
  refine j_iconst (pc' := 7) dX12_things_6 rfl ?_
  refine j_icmp_lt (tgt := 16) (pc' := 10) dX12_things_7 (by decide) rfl ra1 ⟨by decide, by decide⟩ (fun c2 => ?_) (fun c2 => ?_)
  · rw [if_pos c2] at H
    refine j_sub (lv' := [(0, vr a0)]) [0] rfl ?_
    exact tX12_things_16   a0 h1  H
  · rw [if_neg c2] at H
    refine j_iload_n (i := 1) (pc' := 11) dX12_things_10 rfl rfl 1 rfl ?_
    refine j_bipush (pc' := 13) dX12_things_11 rfl (by decide +kernel) ?_
    refine j_icmp_le (tgt := 24) (pc' := 16) dX12_things_13 (by decide) rfl ra1 ⟨by decide, by decide⟩ (fun c3 => ?_) (fun c3 => ?_)
    · rw [if_pos c3] at H
      refine j_aload_n (i := 0) (pc' := 25) dX12_things_24 rfl rfl 0 rfl ?_
      obtain ⟨u4, e4, H⟩ := bs H
      obtain ⟨h5, e5, H⟩ := bs H
      refine j_cVv (y := yX12_change) (dY := 2) (vs := []) (st := []) (q := a0) (pc' := 28) dX12_things_25 rfl ymX12_change yvX12_change ml_X12_102 (by decide) rfl (Nat.le_of_ble_eq_true rfl) (Nat.le_of_ble_eq_true rfl) e4 (tX12_change a0 h1 e5) (fun z5 => ?_)
      refine j_aload_n (i := 0) (pc' := 29) dX12_things_28 rfl rfl 0 rfl ?_
      refine j_iload_n (i := 1) (pc' := 30) dX12_things_29 rfl rfl 1 rfl ?_
      obtain ⟨u6, e6, H⟩ := bs H
      obtain ⟨h7, e7, H⟩ := bs H
      refine j_cVv (y := yX12_begin) (dY := 1) (vs := [vi a1]) (st := []) (q := a0) (pc' := 33) dX12_things_30 rfl ymX12_begin yvX12_begin ml_X12_73 (by decide) rfl (Nat.le_of_ble_eq_true rfl) (Nat.le_of_ble_eq_true rfl) e6 (tX12_begin a0 a1 h5 ra1 e7) (fun z7 => ?_)
      refine j_iconst (pc' := 34) dX12_things_33 rfl ?_
      obtain rfl := Option.some.inj H
      exact j_iret dX12_things_34 ⟨by decide, by decide⟩ ⟨rfl, rfl, Or.inr rfl⟩
    · rw [if_neg c3] at H
      refine j_sub (lv' := [(0, vr a0)]) [0] rfl ?_
      exact tX12_things_16   a0 h1  H
-- X12_setWay
noncomputable def fX12_setWay (a0 : Nat) (a1 : Int) (a2 : Int) (a3 : Int) (h : Hp) : Option (Hp) :=
  (getR h 11 a0 2).bind fun v1 => (ast h 0 v1 ((12 * a1) + a2) a3).bind fun h2 => (getR h2 11 a0 2).bind fun v3 => (ast h2 0 v3 ((12 * a2) + a1) a3).bind fun h4 => some h4
theorem tX12_setWay {L : Nat} {xs : Nat → Int32} {l : Launch} {res : Hp} (a0 : Nat) (a1 : Int) (a2 : Int) (a3 : Int) (h : Hp) (ra1 : R32 a1) (ra2 : R32 a2) (ra3 : R32 a3) (H : fX12_setWay a0 a1 a2 a3 h = some res) : J L xs l RX12 cX12_setWay 4 false 1 (QV res) 0 0 0 (alv 0 [vr a0, vi a1, vi a2, vi a3]) [] h := by
  unfold fX12_setWay at H
  show J L xs l RX12 cX12_setWay 4 false 1 (QV res) 0 0 0 [(0, vr a0), (1, vi a1), (2, vi a2), (3, vi a3)] [] h
  refine j_aload_n (i := 0) (pc' := 1) dX12_setWay_0 rfl rfl 0 rfl ?_
  obtain ⟨v1, e1, H⟩ := bs H
  refine j_getR (pc' := 4) dX12_setWay_1 rfl fl_X12_16 e1 (fun r1 => ?_)
  refine j_bipush (pc' := 6) dX12_setWay_4 rfl (by decide +kernel) ?_
  refine j_iload_n (i := 1) (pc' := 7) dX12_setWay_6 rfl rfl 1 rfl ?_
  refine j_imul (pc' := 8) dX12_setWay_7 rfl ?_
  refine j_iload_n (i := 2) (pc' := 9) dX12_setWay_8 rfl rfl 2 rfl ?_
  refine j_iadd (pc' := 10) dX12_setWay_9 rfl ?_
  refine j_iload_n (i := 3) (pc' := 11) dX12_setWay_10 rfl rfl 3 rfl ?_
  obtain ⟨h2, e2, H⟩ := bs H
  refine j_iast (pc' := 12) dX12_setWay_11 rfl ra3 e2 ?_
  refine j_aload_n (i := 0) (pc' := 13) dX12_setWay_12 rfl rfl 0 rfl ?_
  obtain ⟨v3, e3, H⟩ := bs H
  refine j_getR (pc' := 16) dX12_setWay_13 rfl fl_X12_16 e3 (fun r3 => ?_)
  refine j_bipush (pc' := 18) dX12_setWay_16 rfl (by decide +kernel) ?_
  refine j_iload_n (i := 2) (pc' := 19) dX12_setWay_18 rfl rfl 2 rfl ?_
  refine j_imul (pc' := 20) dX12_setWay_19 rfl ?_
  refine j_iload_n (i := 1) (pc' := 21) dX12_setWay_20 rfl rfl 1 rfl ?_
  refine j_iadd (pc' := 22) dX12_setWay_21 rfl ?_
  refine j_iload_n (i := 3) (pc' := 23) dX12_setWay_22 rfl rfl 3 rfl ?_
  obtain ⟨h4, e4, H⟩ := bs H
  refine j_iast (pc' := 24) dX12_setWay_23 rfl ra3 e4 ?_
  obtain rfl := Option.some.inj H
  exact j_vret dX12_setWay_24 ⟨rfl, rfl⟩
-- X12_way
noncomputable def fX12_way_25 (x0 : Nat) (h : Hp) : Option (Int × Hp) :=
  (cob h 11 x0).bind fun _ => (fX12_no x0 1 h).bind fun p2 => some (p2.1, p2.2)
theorem tX12_way_25 {L : Nat} {xs : Nat → Int32} {l : Launch} {res : Int × Hp} (x0 : Nat) (h : Hp)  (H : fX12_way_25 x0 h = some res) : J L xs l RX12 cX12_way 5 false 4 (QI res) 0 0 25 [(0, vr x0)] [] h := by
  unfold fX12_way_25 at H
  refine j_aload_n (i := 0) (pc' := 26) dX12_way_25 rfl rfl 0 rfl ?_
  refine j_iconst (pc' := 27) dX12_way_26 rfl ?_
  obtain ⟨u1, e1, H⟩ := bs H
  obtain ⟨p2, e2, H⟩ := bs H
  refine j_cVi (y := yX12_no) (dY := 1) (vs := [vi 1]) (st := []) (q := x0) (pc' := 30) dX12_way_27 rfl ymX12_no yvX12_no ml_X12_98 (by decide) rfl (Nat.le_of_ble_eq_true rfl) (Nat.le_of_ble_eq_true rfl) e1 (tX12_no x0 1 h ⟨by decide, by decide⟩ e2) (fun r2 z2 => ?_)
  obtain rfl := Option.some.inj H
  exact j_iret dX12_way_30 r2 ⟨rfl, rfl⟩
noncomputable def fX12_way (a0 : Nat) (a1 : Int) (a2 : Int) (a3 : Int) (h : Hp) : Option (Int × Hp) :=
  (putV h 11 a0 19 (vi 0)).bind fun h1 => (cob h1 11 a0).bind fun _ => (fX12_arePair a0 a1 a2 h1).bind fun p3 => if p3.1 = 0 then (fX12_way_25 a0 p3.2) else (if a3 < 0 then (fX12_way_25 a0 p3.2) else (if a3 ≤ 10000 then ((cob p3.2 11 a0).bind fun _ => (fX12_change a0 p3.2).bind fun h8 => (getR h8 11 a0 2).bind fun v9 => (ald h8 0 v9 ((12 * a1) + a2)).bind fun v10 => (cob h8 11 a0).bind fun _ => (fX12_setWay a0 a1 a2 a3 h8).bind fun h12 => some (v10, h12)) else (fX12_way_25 a0 p3.2)))
theorem tX12_way {L : Nat} {xs : Nat → Int32} {l : Launch} {res : Int × Hp} (a0 : Nat) (a1 : Int) (a2 : Int) (a3 : Int) (h : Hp) (ra1 : R32 a1) (ra2 : R32 a2) (ra3 : R32 a3) (H : fX12_way a0 a1 a2 a3 h = some res) : J L xs l RX12 cX12_way 5 false 4 (QI res) 0 0 0 (alv 0 [vr a0, vi a1, vi a2, vi a3]) [] h := by
  unfold fX12_way at H
  show J L xs l RX12 cX12_way 5 false 4 (QI res) 0 0 0 [(0, vr a0), (1, vi a1), (2, vi a2), (3, vi a3)] [] h
  refine j_aload_n (i := 0) (pc' := 1) dX12_way_0 rfl rfl 0 rfl ?_
  refine j_iconst (pc' := 2) dX12_way_1 rfl ?_
  obtain ⟨h1, e1, H⟩ := bs H
  refine j_putV (pc' := 5) dX12_way_2 rfl fp_X12_77 tI ⟨by decide, by decide⟩ e1 ?_
  refine j_aload_n (i := 0) (pc' := 6) dX12_way_5 rfl rfl 0 rfl ?_
  refine j_iload_n (i := 1) (pc' := 7) dX12_way_6 rfl rfl 1 rfl ?_
  refine j_iload_n (i := 2) (pc' := 8) dX12_way_7 rfl rfl 2 rfl ?_
  obtain ⟨u2, e2, H⟩ := bs H
  obtain ⟨p3, e3, H⟩ := bs H
  refine j_cVb (y := yX12_arePair) (dY := 3) (vs := [vi a1, vi a2]) (st := []) (q := a0) (pc' := 11) dX12_way_8 rfl ymX12_arePair yvX12_arePair ml_X12_105 (by decide) rfl (Nat.le_of_ble_eq_true rfl) (Nat.le_of_ble_eq_true rfl) e2 (tX12_arePair a0 a1 a2 h1 ra1 ra2 e3) (fun r3 b3 z3 => ?_)
  refine j_if_eq (tgt := 25) (pc' := 14) dX12_way_11 (by decide) rfl r3 (fun c4 => ?_) (fun c4 => ?_)
  · rw [if_pos c4] at H
    refine j_sub (lv' := [(0, vr a0)]) [0] rfl ?_
    exact tX12_way_25   a0 p3.2  H
  · rw [if_neg c4] at H
    refine j_iload_n (i := 3) (pc' := 15) dX12_way_14 rfl rfl 3 rfl ?_
    refine j_if_lt (tgt := 25) (pc' := 18) dX12_way_15 (by decide) rfl ra3 (fun c5 => ?_) (fun c5 => ?_)
    · rw [if_pos c5] at H
      refine j_sub (lv' := [(0, vr a0)]) [0] rfl ?_
      exact tX12_way_25   a0 p3.2  H
    · rw [if_neg c5] at H
      refine j_iload_n (i := 3) (pc' := 19) dX12_way_18 rfl rfl 3 rfl ?_
      refine j_sipush (pc' := 22) dX12_way_19 rfl (by decide +kernel) ?_
      refine j_icmp_le (tgt := 31) (pc' := 25) dX12_way_22 (by decide) rfl ra3 ⟨by decide, by decide⟩ (fun c6 => ?_) (fun c6 => ?_)
      · rw [if_pos c6] at H
        refine j_aload_n (i := 0) (pc' := 32) dX12_way_31 rfl rfl 0 rfl ?_
        obtain ⟨u7, e7, H⟩ := bs H
        obtain ⟨h8, e8, H⟩ := bs H
        refine j_cVv (y := yX12_change) (dY := 2) (vs := []) (st := []) (q := a0) (pc' := 35) dX12_way_32 rfl ymX12_change yvX12_change ml_X12_102 (by decide) rfl (Nat.le_of_ble_eq_true rfl) (Nat.le_of_ble_eq_true rfl) e7 (tX12_change a0 p3.2 e8) (fun z8 => ?_)
        refine j_aload_n (i := 0) (pc' := 36) dX12_way_35 rfl rfl 0 rfl ?_
        obtain ⟨v9, e9, H⟩ := bs H
        refine j_getR (pc' := 39) dX12_way_36 rfl fl_X12_16 e9 (fun r9 => ?_)
        refine j_bipush (pc' := 41) dX12_way_39 rfl (by decide +kernel) ?_
        refine j_iload_n (i := 1) (pc' := 42) dX12_way_41 rfl rfl 1 rfl ?_
        refine j_imul (pc' := 43) dX12_way_42 rfl ?_
        refine j_iload_n (i := 2) (pc' := 44) dX12_way_43 rfl rfl 2 rfl ?_
        refine j_iadd (pc' := 45) dX12_way_44 rfl ?_
        obtain ⟨v10, e10, H⟩ := bs H
        refine j_iald (pc' := 46) dX12_way_45 rfl e10 (fun r10 => ?_)
        refine j_istore (lv' := [(0, vr a0), (1, vi a1), (2, vi a2), (3, vi a3), (4, vi v10)]) (pc' := 48) dX12_way_46 rfl (by decide) [1, 2, 3, 4, 0] rfl ?_
        refine j_aload_n (i := 0) (pc' := 49) dX12_way_48 rfl rfl 0 rfl ?_
        refine j_iload_n (i := 1) (pc' := 50) dX12_way_49 rfl rfl 1 rfl ?_
        refine j_iload_n (i := 2) (pc' := 51) dX12_way_50 rfl rfl 2 rfl ?_
        refine j_iload_n (i := 3) (pc' := 52) dX12_way_51 rfl rfl 3 rfl ?_
        obtain ⟨u11, e11, H⟩ := bs H
        obtain ⟨h12, e12, H⟩ := bs H
        refine j_cVv (y := yX12_setWay) (dY := 1) (vs := [vi a1, vi a2, vi a3]) (st := []) (q := a0) (pc' := 55) dX12_way_52 rfl ymX12_setWay yvX12_setWay ml_X12_109 (by decide) rfl (Nat.le_of_ble_eq_true rfl) (Nat.le_of_ble_eq_true rfl) e11 (tX12_setWay a0 a1 a2 a3 h8 ra1 ra2 ra3 e12) (fun z12 => ?_)
        refine j_iload (pc' := 57) dX12_way_55 rfl 4 rfl ?_
        obtain rfl := Option.some.inj H
        exact j_iret dX12_way_57 r10 ⟨rfl, rfl⟩
      · rw [if_neg c6] at H
        refine j_sub (lv' := [(0, vr a0)]) [0] rfl ?_
        exact tX12_way_25   a0 p3.2  H
-- X12_sheet
noncomputable def fX12_sheet_25 (x0 : Nat) (h : Hp) : Option (Int × Hp) :=
  (cob h 11 x0).bind fun _ => (fX12_no x0 1 h).bind fun p2 => some (p2.1, p2.2)
theorem tX12_sheet_25 {L : Nat} {xs : Nat → Int32} {l : Launch} {res : Int × Hp} (x0 : Nat) (h : Hp)  (H : fX12_sheet_25 x0 h = some res) : J L xs l RX12 cX12_sheet 4 false 2 (QI res) 0 0 25 [(0, vr x0)] [] h := by
  unfold fX12_sheet_25 at H
  refine j_aload_n (i := 0) (pc' := 26) dX12_sheet_25 rfl rfl 0 rfl ?_
  refine j_iconst (pc' := 27) dX12_sheet_26 rfl ?_
  obtain ⟨u1, e1, H⟩ := bs H
  obtain ⟨p2, e2, H⟩ := bs H
  refine j_cVi (y := yX12_no) (dY := 1) (vs := [vi 1]) (st := []) (q := x0) (pc' := 30) dX12_sheet_27 rfl ymX12_no yvX12_no ml_X12_98 (by decide) rfl (Nat.le_of_ble_eq_true rfl) (Nat.le_of_ble_eq_true rfl) e1 (tX12_no x0 1 h ⟨by decide, by decide⟩ e2) (fun r2 z2 => ?_)
  obtain rfl := Option.some.inj H
  exact j_iret dX12_sheet_30 r2 ⟨rfl, rfl⟩
noncomputable def fX12_sheet_86 (x0 : Nat) (h : Hp) : Option (Int × Hp) :=
  (getI h 11 x0 9).bind fun v1 => some (v1, h)
theorem tX12_sheet_86 {L : Nat} {xs : Nat → Int32} {l : Launch} {res : Int × Hp} (x0 : Nat) (h : Hp)  (H : fX12_sheet_86 x0 h = some res) : J L xs l RX12 cX12_sheet 4 false 2 (QI res) 0 0 86 [(0, vr x0)] [] h := by
  unfold fX12_sheet_86 at H
  refine j_aload_n (i := 0) (pc' := 87) dX12_sheet_86 rfl rfl 0 rfl ?_
  obtain ⟨v1, e1, H⟩ := bs H
  refine j_getI (pc' := 90) dX12_sheet_87 rfl fl_X12_113 e1 (fun r1 => ?_)
  obtain rfl := Option.some.inj H
  exact j_iret dX12_sheet_90 r1 ⟨rfl, rfl⟩
noncomputable def fX12_sheet_67 : Nat → Nat → Int → Hp → Option (Int × Hp)
  | 0, _, _, _ => none
  | n + 1, x0, x3, h => if 8 ≤ x3 then (fX12_sheet_86 x0 h) else ((getR h 11 x0 10).bind fun v2 => (ast h 1 v2 x3 0).bind fun h3 => (c32 (x3 + 1)).bind fun _ => fX12_sheet_67 n x0 (x3 + 1) h3)
theorem tX12_sheet_67 {L : Nat} {xs : Nat → Int32} {l : Launch} {res : Int × Hp} : ∀ (n : Nat) (x0 : Nat) (x3 : Int) (h : Hp), R32 x3 → fX12_sheet_67 n x0 x3 h = some res → J L xs l RX12 cX12_sheet 4 false 2 (QI res) 0 0 67 [(0, vr x0), (3, vi x3)] [] h := by
  intro n
  induction n with
  | zero => intro x0 x3 h rx3 H; cases H
  | succ n ih =>
    intro x0 x3 h rx3 H
    rw [fX12_sheet_67] at H
    refine j_iload_n (i := 3) (pc' := 68) dX12_sheet_67 rfl rfl 1 rfl ?_
    refine j_bipush (pc' := 70) dX12_sheet_68 rfl (by decide +kernel) ?_
    refine j_icmp_ge (tgt := 86) (pc' := 73) dX12_sheet_70 (by decide) rfl rx3 ⟨by decide, by decide⟩ (fun c1 => ?_) (fun c1 => ?_)
    · rw [if_pos c1] at H
      refine j_sub (lv' := [(0, vr x0)]) [0] rfl ?_
      exact tX12_sheet_86   x0 h  H
    · rw [if_neg c1] at H
      refine j_aload_n (i := 0) (pc' := 74) dX12_sheet_73 rfl rfl 0 rfl ?_
      obtain ⟨v2, e2, H⟩ := bs H
      refine j_getR (pc' := 77) dX12_sheet_74 rfl fl_X12_33 e2 (fun r2 => ?_)
      refine j_iload_n (i := 3) (pc' := 78) dX12_sheet_77 rfl rfl 1 rfl ?_
      refine j_lconst (z := 0) (pc' := 79) dX12_sheet_78 rfl rfl ?_
      obtain ⟨h3, e3, H⟩ := bs H
      refine j_last (pc' := 80) dX12_sheet_79 rfl ⟨by decide, by decide⟩ e3 ?_
      obtain ⟨u4, e4, H⟩ := bs H
      have r4 := c32_R e4
      refine j_iinc (k0 := 1) (lv' := [(0, vr x0), (3, vi (x3 + 1))]) (pc' := 83) dX12_sheet_80 rfl rfl (by decide) [1, 0] rfl ?_
      refine j_goto (tgt := 67) dX12_sheet_83 (by decide) ?_
      exact ih x0 (x3 + 1) h3 r4 H
noncomputable def fX12_sheet_62 (x0 : Nat) (s0 : Int) (s1 : Nat) (h : Hp) : Option (Int × Hp) :=
  (putV h 11 s1 9 (vi s0)).bind fun h1 => fX12_sheet_67 FU x0 0 h1
theorem tX12_sheet_62 {L : Nat} {xs : Nat → Int32} {l : Launch} {res : Int × Hp} (x0 : Nat) (s0 : Int) (s1 : Nat) (h : Hp) (rs0 : R32 s0) (H : fX12_sheet_62 x0 s0 s1 h = some res) : J L xs l RX12 cX12_sheet 4 false 2 (QI res) 0 0 62 [(0, vr x0)] [vi s0, vr s1] h := by
  unfold fX12_sheet_62 at H
  obtain ⟨h1, e1, H⟩ := bs H
  refine j_putV (pc' := 65) dX12_sheet_62 rfl fp_X12_113 tI rs0 e1 ?_
  refine j_iconst (pc' := 66) dX12_sheet_65 rfl ?_
  refine j_istore_n (i := 3) (lv' := [(0, vr x0), (3, vi 0)]) (pc' := 67) dX12_sheet_66 rfl rfl (by decide) [1, 0] rfl ?_
  exact tX12_sheet_67   FU x0 0 h1 ⟨by decide, by decide⟩ H
noncomputable def fX12_sheet_46 (x0 : Nat) (x1 : Int) (x2 : Int) (h : Hp) : Option (Int × Hp) :=
  (putV h 11 x0 8 (vi x1)).bind fun h1 => if x1 = 4 then (fX12_sheet_62 x0 0 x0 h1) else (fX12_sheet_62 x0 x2 x0 h1)
theorem tX12_sheet_46 {L : Nat} {xs : Nat → Int32} {l : Launch} {res : Int × Hp} (x0 : Nat) (x1 : Int) (x2 : Int) (h : Hp) (rx1 : R32 x1) (rx2 : R32 x2) (H : fX12_sheet_46 x0 x1 x2 h = some res) : J L xs l RX12 cX12_sheet 4 false 2 (QI res) 0 0 46 [(0, vr x0), (1, vi x1), (2, vi x2)] [] h := by
  unfold fX12_sheet_46 at H
  refine j_aload_n (i := 0) (pc' := 47) dX12_sheet_46 rfl rfl 0 rfl ?_
  refine j_iload_n (i := 1) (pc' := 48) dX12_sheet_47 rfl rfl 1 rfl ?_
  obtain ⟨h1, e1, H⟩ := bs H
  refine j_putV (pc' := 51) dX12_sheet_48 rfl fp_X12_29 tI rx1 e1 ?_
  refine j_aload_n (i := 0) (pc' := 52) dX12_sheet_51 rfl rfl 0 rfl ?_
  refine j_iload_n (i := 1) (pc' := 53) dX12_sheet_52 rfl rfl 1 rfl ?_
  refine j_iconst (pc' := 54) dX12_sheet_53 rfl ?_
  refine j_icmp_ne (tgt := 61) (pc' := 57) dX12_sheet_54 (by decide) rfl rx1 ⟨by decide, by decide⟩ (fun c2 => ?_) (fun c2 => ?_)
  · rw [if_neg c2] at H
    refine j_iload_n (i := 2) (pc' := 62) dX12_sheet_61 rfl rfl 2 rfl ?_
    refine j_sub (lv' := [(0, vr x0)]) [0] rfl ?_
    exact tX12_sheet_62   x0 x2 x0 h1 rx2 H
  · rw [if_pos c2] at H
    refine j_iconst (pc' := 58) dX12_sheet_57 rfl ?_
    refine j_goto (tgt := 62) dX12_sheet_58 (by decide) ?_
    refine j_sub (lv' := [(0, vr x0)]) [0] rfl ?_
    exact tX12_sheet_62   x0 0 x0 h1 ⟨by decide, by decide⟩ H
noncomputable def fX12_sheet_31 (x0 : Nat) (x1 : Int) (x2 : Int) (h : Hp) : Option (Int × Hp) :=
  if 4 ≤ x1 then (fX12_sheet_46 x0 x1 x2 h) else (if 0 ≤ x2 then (fX12_sheet_46 x0 x1 x2 h) else ((cob h 11 x0).bind fun _ => (fX12_no x0 4 h).bind fun p4 => some (p4.1, p4.2)))
theorem tX12_sheet_31 {L : Nat} {xs : Nat → Int32} {l : Launch} {res : Int × Hp} (x0 : Nat) (x1 : Int) (x2 : Int) (h : Hp) (rx1 : R32 x1) (rx2 : R32 x2) (H : fX12_sheet_31 x0 x1 x2 h = some res) : J L xs l RX12 cX12_sheet 4 false 2 (QI res) 0 0 31 [(0, vr x0), (1, vi x1), (2, vi x2)] [] h := by
  unfold fX12_sheet_31 at H
  refine j_iload_n (i := 1) (pc' := 32) dX12_sheet_31 rfl rfl 1 rfl ?_
  refine j_iconst (pc' := 33) dX12_sheet_32 rfl ?_
  refine j_icmp_ge (tgt := 46) (pc' := 36) dX12_sheet_33 (by decide) rfl rx1 ⟨by decide, by decide⟩ (fun c1 => ?_) (fun c1 => ?_)
  · rw [if_pos c1] at H
    exact tX12_sheet_46   x0 x1 x2 h rx1 rx2 H
  · rw [if_neg c1] at H
    refine j_iload_n (i := 2) (pc' := 37) dX12_sheet_36 rfl rfl 2 rfl ?_
    refine j_if_ge (tgt := 46) (pc' := 40) dX12_sheet_37 (by decide) rfl rx2 (fun c2 => ?_) (fun c2 => ?_)
    · rw [if_pos c2] at H
      exact tX12_sheet_46   x0 x1 x2 h rx1 rx2 H
    · rw [if_neg c2] at H
      refine j_aload_n (i := 0) (pc' := 41) dX12_sheet_40 rfl rfl 0 rfl ?_
      refine j_iconst (pc' := 42) dX12_sheet_41 rfl ?_
      obtain ⟨u3, e3, H⟩ := bs H
      obtain ⟨p4, e4, H⟩ := bs H
      refine j_cVi (y := yX12_no) (dY := 1) (vs := [vi 4]) (st := []) (q := x0) (pc' := 45) dX12_sheet_42 rfl ymX12_no yvX12_no ml_X12_98 (by decide) rfl (Nat.le_of_ble_eq_true rfl) (Nat.le_of_ble_eq_true rfl) e3 (tX12_no x0 4 h ⟨by decide, by decide⟩ e4) (fun r4 z4 => ?_)
      obtain rfl := Option.some.inj H
      exact j_iret dX12_sheet_45 r4 ⟨rfl, rfl⟩
noncomputable def fX12_sheet (a0 : Nat) (a1 : Int) (a2 : Int) (h : Hp) : Option (Int × Hp) :=
  (putV h 11 a0 19 (vi 0)).bind fun h1 => if a1 < 0 then (fX12_sheet_25 a0 h1) else (if 4 < a1 then (fX12_sheet_25 a0 h1) else (if 4 ≤ a1 then (fX12_sheet_31 a0 a1 a2 h1) else (if a2 ≤ 8 then (fX12_sheet_31 a0 a1 a2 h1) else (fX12_sheet_25 a0 h1))))
theorem tX12_sheet {L : Nat} {xs : Nat → Int32} {l : Launch} {res : Int × Hp} (a0 : Nat) (a1 : Int) (a2 : Int) (h : Hp) (ra1 : R32 a1) (ra2 : R32 a2) (H : fX12_sheet a0 a1 a2 h = some res) : J L xs l RX12 cX12_sheet 4 false 2 (QI res) 0 0 0 (alv 0 [vr a0, vi a1, vi a2]) [] h := by
  unfold fX12_sheet at H
  show J L xs l RX12 cX12_sheet 4 false 2 (QI res) 0 0 0 [(0, vr a0), (1, vi a1), (2, vi a2)] [] h
  refine j_aload_n (i := 0) (pc' := 1) dX12_sheet_0 rfl rfl 0 rfl ?_
  refine j_iconst (pc' := 2) dX12_sheet_1 rfl ?_
  obtain ⟨h1, e1, H⟩ := bs H
  refine j_putV (pc' := 5) dX12_sheet_2 rfl fp_X12_77 tI ⟨by decide, by decide⟩ e1 ?_
  refine j_iload_n (i := 1) (pc' := 6) dX12_sheet_5 rfl rfl 1 rfl ?_
  refine j_if_lt (tgt := 25) (pc' := 9) dX12_sheet_6 (by decide) rfl ra1 (fun c2 => ?_) (fun c2 => ?_)
  · rw [if_pos c2] at H
    refine j_sub (lv' := [(0, vr a0)]) [0] rfl ?_
    exact tX12_sheet_25   a0 h1  H
  · rw [if_neg c2] at H
    refine j_iload_n (i := 1) (pc' := 10) dX12_sheet_9 rfl rfl 1 rfl ?_
    refine j_iconst (pc' := 11) dX12_sheet_10 rfl ?_
    refine j_icmp_gt (tgt := 25) (pc' := 14) dX12_sheet_11 (by decide) rfl ra1 ⟨by decide, by decide⟩ (fun c3 => ?_) (fun c3 => ?_)
    · rw [if_pos c3] at H
      refine j_sub (lv' := [(0, vr a0)]) [0] rfl ?_
      exact tX12_sheet_25   a0 h1  H
    · rw [if_neg c3] at H
      refine j_iload_n (i := 1) (pc' := 15) dX12_sheet_14 rfl rfl 1 rfl ?_
      refine j_iconst (pc' := 16) dX12_sheet_15 rfl ?_
      refine j_icmp_ge (tgt := 31) (pc' := 19) dX12_sheet_16 (by decide) rfl ra1 ⟨by decide, by decide⟩ (fun c4 => ?_) (fun c4 => ?_)
      · rw [if_pos c4] at H
        exact tX12_sheet_31   a0 a1 a2 h1 ra1 ra2 H
      · rw [if_neg c4] at H
        refine j_iload_n (i := 2) (pc' := 20) dX12_sheet_19 rfl rfl 2 rfl ?_
        refine j_bipush (pc' := 22) dX12_sheet_20 rfl (by decide +kernel) ?_
        refine j_icmp_le (tgt := 31) (pc' := 25) dX12_sheet_22 (by decide) rfl ra2 ⟨by decide, by decide⟩ (fun c5 => ?_) (fun c5 => ?_)
        · rw [if_pos c5] at H
          exact tX12_sheet_31   a0 a1 a2 h1 ra1 ra2 H
        · rw [if_neg c5] at H
          refine j_sub (lv' := [(0, vr a0)]) [0] rfl ?_
          exact tX12_sheet_25   a0 h1  H
-- X12_entry
noncomputable def fX12_entry_21 (x0 : Nat) (h : Hp) : Option (Int × Hp) :=
  (cob h 11 x0).bind fun _ => (fX12_no x0 2 h).bind fun p2 => some (0, p2.2)
theorem tX12_entry_21 {L : Nat} {xs : Nat → Int32} {l : Launch} {res : Int × Hp} (x0 : Nat) (h : Hp)  (H : fX12_entry_21 x0 h = some res) : J L xs l RX12 cX12_entry 5 false 2 (QB res) 0 0 21 [(0, vr x0)] [] h := by
  unfold fX12_entry_21 at H
  refine j_aload_n (i := 0) (pc' := 22) dX12_entry_21 rfl rfl 0 rfl ?_
  refine j_iconst (pc' := 23) dX12_entry_22 rfl ?_
  obtain ⟨u1, e1, H⟩ := bs H
  obtain ⟨p2, e2, H⟩ := bs H
  refine j_cVi (y := yX12_no) (dY := 1) (vs := [vi 2]) (st := []) (q := x0) (pc' := 26) dX12_entry_23 rfl ymX12_no yvX12_no ml_X12_98 (by decide) rfl (Nat.le_of_ble_eq_true rfl) (Nat.le_of_ble_eq_true rfl) e1 (tX12_no x0 2 h ⟨by decide, by decide⟩ e2) (fun r2 z2 => ?_)
  refine j_pop (pc' := 27) dX12_entry_26 rfl rfl ?_
  refine j_iconst (pc' := 28) dX12_entry_27 rfl ?_
  obtain rfl := Option.some.inj H
  exact j_iret dX12_entry_28 ⟨by decide, by decide⟩ ⟨rfl, rfl, Or.inl rfl⟩
noncomputable def fX12_entry_41 (x0 : Nat) (h : Hp) : Option (Int × Hp) :=
  (cob h 11 x0).bind fun _ => (fX12_no x0 1 h).bind fun p2 => some (0, p2.2)
theorem tX12_entry_41 {L : Nat} {xs : Nat → Int32} {l : Launch} {res : Int × Hp} (x0 : Nat) (h : Hp)  (H : fX12_entry_41 x0 h = some res) : J L xs l RX12 cX12_entry 5 false 2 (QB res) 0 0 41 [(0, vr x0)] [] h := by
  unfold fX12_entry_41 at H
  refine j_aload_n (i := 0) (pc' := 42) dX12_entry_41 rfl rfl 0 rfl ?_
  refine j_iconst (pc' := 43) dX12_entry_42 rfl ?_
  obtain ⟨u1, e1, H⟩ := bs H
  obtain ⟨p2, e2, H⟩ := bs H
  refine j_cVi (y := yX12_no) (dY := 1) (vs := [vi 1]) (st := []) (q := x0) (pc' := 46) dX12_entry_43 rfl ymX12_no yvX12_no ml_X12_98 (by decide) rfl (Nat.le_of_ble_eq_true rfl) (Nat.le_of_ble_eq_true rfl) e1 (tX12_no x0 1 h ⟨by decide, by decide⟩ e2) (fun r2 z2 => ?_)
  refine j_pop (pc' := 47) dX12_entry_46 rfl rfl ?_
  refine j_iconst (pc' := 48) dX12_entry_47 rfl ?_
  obtain rfl := Option.some.inj H
  exact j_iret dX12_entry_48 ⟨by decide, by decide⟩ ⟨rfl, rfl, Or.inl rfl⟩
noncomputable def fX12_entry (a0 : Nat) (a1 : Int) (a2 : Int) (h : Hp) : Option (Int × Hp) :=
  (putV h 11 a0 19 (vi 0)).bind fun h1 => (getI h1 11 a0 8).bind fun v2 => if v2 = (-1) then (fX12_entry_21 a0 h1) else ((getI h1 11 a0 8).bind fun v4 => if v4 = 4 then (fX12_entry_21 a0 h1) else (if a1 < 0 then (fX12_entry_41 a0 h1) else ((getI h1 11 a0 9).bind fun v7 => if a1 < v7 then ((getI h1 11 a0 8).bind fun v9 => (c32 (64 - (bShl 8 v9))).bind fun _ => (getR h1 11 a0 10).bind fun v11 => (ast h1 1 v11 a1 (lShr (lShl a2 (64 - (bShl 8 v9))) (64 - (bShl 8 v9)))).bind fun h12 => some (1, h12)) else (fX12_entry_41 a0 h1))))
theorem tX12_entry {L : Nat} {xs : Nat → Int32} {l : Launch} {res : Int × Hp} (a0 : Nat) (a1 : Int) (a2 : Int) (h : Hp) (ra1 : R32 a1) (ra2 : R64 a2) (H : fX12_entry a0 a1 a2 h = some res) : J L xs l RX12 cX12_entry 5 false 2 (QB res) 0 0 0 (alv 0 [vr a0, vi a1, vl a2]) [] h := by
  unfold fX12_entry at H
  show J L xs l RX12 cX12_entry 5 false 2 (QB res) 0 0 0 [(0, vr a0), (1, vi a1), (2, vl a2)] [] h
  refine j_aload_n (i := 0) (pc' := 1) dX12_entry_0 rfl rfl 0 rfl ?_
  refine j_iconst (pc' := 2) dX12_entry_1 rfl ?_
  obtain ⟨h1, e1, H⟩ := bs H
  refine j_putV (pc' := 5) dX12_entry_2 rfl fp_X12_77 tI ⟨by decide, by decide⟩ e1 ?_
  refine j_aload_n (i := 0) (pc' := 6) dX12_entry_5 rfl rfl 0 rfl ?_
  obtain ⟨v2, e2, H⟩ := bs H
  refine j_getI (pc' := 9) dX12_entry_6 rfl fl_X12_29 e2 (fun r2 => ?_)
  refine j_iconst (pc' := 10) dX12_entry_9 rfl ?_
  refine j_icmp_eq (tgt := 21) (pc' := 13) dX12_entry_10 (by decide) rfl r2 ⟨by decide, by decide⟩ (fun c3 => ?_) (fun c3 => ?_)
  · rw [if_pos c3] at H
    refine j_sub (lv' := [(0, vr a0)]) [0] rfl ?_
    exact tX12_entry_21   a0 h1  H
  · rw [if_neg c3] at H
    refine j_aload_n (i := 0) (pc' := 14) dX12_entry_13 rfl rfl 0 rfl ?_
    obtain ⟨v4, e4, H⟩ := bs H
    refine j_getI (pc' := 17) dX12_entry_14 rfl fl_X12_29 e4 (fun r4 => ?_)
    refine j_iconst (pc' := 18) dX12_entry_17 rfl ?_
    refine j_icmp_ne (tgt := 29) (pc' := 21) dX12_entry_18 (by decide) rfl r4 ⟨by decide, by decide⟩ (fun c5 => ?_) (fun c5 => ?_)
    · rw [if_neg c5] at H
      refine j_iload_n (i := 1) (pc' := 30) dX12_entry_29 rfl rfl 1 rfl ?_
      refine j_if_lt (tgt := 41) (pc' := 33) dX12_entry_30 (by decide) rfl ra1 (fun c6 => ?_) (fun c6 => ?_)
      · rw [if_pos c6] at H
        refine j_sub (lv' := [(0, vr a0)]) [0] rfl ?_
        exact tX12_entry_41   a0 h1  H
      · rw [if_neg c6] at H
        refine j_iload_n (i := 1) (pc' := 34) dX12_entry_33 rfl rfl 1 rfl ?_
        refine j_aload_n (i := 0) (pc' := 35) dX12_entry_34 rfl rfl 0 rfl ?_
        obtain ⟨v7, e7, H⟩ := bs H
        refine j_getI (pc' := 38) dX12_entry_35 rfl fl_X12_113 e7 (fun r7 => ?_)
        refine j_icmp_lt (tgt := 49) (pc' := 41) dX12_entry_38 (by decide) rfl ra1 r7 (fun c8 => ?_) (fun c8 => ?_)
        · rw [if_pos c8] at H
          refine j_bipush (pc' := 51) dX12_entry_49 rfl (by decide +kernel) ?_
          refine j_bipush (pc' := 53) dX12_entry_51 rfl (by decide +kernel) ?_
          refine j_aload_n (i := 0) (pc' := 54) dX12_entry_53 rfl rfl 0 rfl ?_
          obtain ⟨v9, e9, H⟩ := bs H
          refine j_getI (pc' := 57) dX12_entry_54 rfl fl_X12_29 e9 (fun r9 => ?_)
          refine j_ishl (pc' := 58) dX12_entry_57 rfl ?_
          refine j_isub (pc' := 59) dX12_entry_58 rfl ?_
          obtain ⟨u10, e10, H⟩ := bs H
          have r10 := c32_R e10
          refine j_istore (lv' := [(0, vr a0), (1, vi a1), (2, vl a2), (4, vi (64 - (bShl 8 v9)))]) (pc' := 61) dX12_entry_59 rfl (by decide) [1, 2, 3, 0] rfl ?_
          refine j_aload_n (i := 0) (pc' := 62) dX12_entry_61 rfl rfl 0 rfl ?_
          obtain ⟨v11, e11, H⟩ := bs H
          refine j_getR (pc' := 65) dX12_entry_62 rfl fl_X12_33 e11 (fun r11 => ?_)
          refine j_iload_n (i := 1) (pc' := 66) dX12_entry_65 rfl rfl 1 rfl ?_
          refine j_lload_n (i := 2) (pc' := 67) dX12_entry_66 rfl rfl 2 rfl ?_
          refine j_iload (pc' := 69) dX12_entry_67 rfl 3 rfl ?_
          refine j_lshl (pc' := 70) dX12_entry_69 rfl ?_
          refine j_iload (pc' := 72) dX12_entry_70 rfl 3 rfl ?_
          refine j_lshr (pc' := 73) dX12_entry_72 rfl ?_
          obtain ⟨h12, e12, H⟩ := bs H
          refine j_last (pc' := 74) dX12_entry_73 rfl (R64_to _) e12 ?_
          refine j_iconst (pc' := 75) dX12_entry_74 rfl ?_
          obtain rfl := Option.some.inj H
          exact j_iret dX12_entry_75 ⟨by decide, by decide⟩ ⟨rfl, rfl, Or.inr rfl⟩
        · rw [if_neg c8] at H
          refine j_sub (lv' := [(0, vr a0)]) [0] rfl ?_
          exact tX12_entry_41   a0 h1  H
    · rw [if_pos c5] at H
      refine j_sub (lv' := [(0, vr a0)]) [0] rfl ?_
      exact tX12_entry_21   a0 h1  H
-- X12_lay
noncomputable def fX12_lay_90 (s0 : Int) (s1 : Nat) (h : Hp) : Option (Int × Hp) :=
  (cob h 11 s1).bind fun _ => (fX12_no s1 s0 h).bind fun p2 => some (0, p2.2)
theorem tX12_lay_90 {L : Nat} {xs : Nat → Int32} {l : Launch} {res : Int × Hp} (s0 : Int) (s1 : Nat) (h : Hp) (rs0 : R32 s0) (H : fX12_lay_90 s0 s1 h = some res) : J L xs l RX12 cX12_lay 4 false 3 (QB res) 0 0 90 [] [vi s0, vr s1] h := by
  unfold fX12_lay_90 at H
  obtain ⟨u1, e1, H⟩ := bs H
  obtain ⟨p2, e2, H⟩ := bs H
  refine j_cVi (y := yX12_no) (dY := 1) (vs := [vi s0]) (st := []) (q := s1) (pc' := 93) dX12_lay_90 rfl ymX12_no yvX12_no ml_X12_98 (by decide) rfl (Nat.le_of_ble_eq_true rfl) (Nat.le_of_ble_eq_true rfl) e1 (tX12_no s1 s0 h rs0 e2) (fun r2 z2 => ?_)
  refine j_pop (pc' := 94) dX12_lay_93 rfl rfl ?_
  refine j_iconst (pc' := 95) dX12_lay_94 rfl ?_
  obtain rfl := Option.some.inj H
  exact j_iret dX12_lay_95 ⟨by decide, by decide⟩ ⟨rfl, rfl, Or.inl rfl⟩
noncomputable def fX12_lay_80 (x0 : Nat) (x2 : Int) (h : Hp) : Option (Int × Hp) :=
  if x2 = 0 then (fX12_lay_90 1 x0 h) else (fX12_lay_90 2 x0 h)
theorem tX12_lay_80 {L : Nat} {xs : Nat → Int32} {l : Launch} {res : Int × Hp} (x0 : Nat) (x2 : Int) (h : Hp) (rx2 : R32 x2) (H : fX12_lay_80 x0 x2 h = some res) : J L xs l RX12 cX12_lay 4 false 3 (QB res) 0 0 80 [(0, vr x0), (2, vi x2)] [] h := by
  unfold fX12_lay_80 at H
  refine j_aload_n (i := 0) (pc' := 81) dX12_lay_80 rfl rfl 0 rfl ?_
  refine j_iload_n (i := 2) (pc' := 82) dX12_lay_81 rfl rfl 1 rfl ?_
  refine j_if_eq (tgt := 89) (pc' := 85) dX12_lay_82 (by decide) rfl rx2 (fun c1 => ?_) (fun c1 => ?_)
  · rw [if_pos c1] at H
    refine j_iconst (pc' := 90) dX12_lay_89 rfl ?_
    refine j_sub (lv' := []) [] rfl ?_
    exact tX12_lay_90   1 x0 h ⟨by decide, by decide⟩ H
  · rw [if_neg c1] at H
    refine j_iconst (pc' := 86) dX12_lay_85 rfl ?_
    refine j_goto (tgt := 90) dX12_lay_86 (by decide) ?_
    refine j_sub (lv' := []) [] rfl ?_
    exact tX12_lay_90   2 x0 h ⟨by decide, by decide⟩ H
noncomputable def fX12_lay_130 (x0 : Nat) (h : Hp) : Option (Int × Hp) :=
  (putV h 11 x0 8 (vi (-1))).bind fun h1 => some (1, h1)
theorem tX12_lay_130 {L : Nat} {xs : Nat → Int32} {l : Launch} {res : Int × Hp} (x0 : Nat) (h : Hp)  (H : fX12_lay_130 x0 h = some res) : J L xs l RX12 cX12_lay 4 false 3 (QB res) 0 0 130 [(0, vr x0)] [] h := by
  unfold fX12_lay_130 at H
  refine j_aload_n (i := 0) (pc' := 131) dX12_lay_130 rfl rfl 0 rfl ?_
  refine j_iconst (pc' := 132) dX12_lay_131 rfl ?_
  obtain ⟨h1, e1, H⟩ := bs H
  refine j_putV (pc' := 135) dX12_lay_132 rfl fp_X12_29 tI ⟨by decide, by decide⟩ e1 ?_
  refine j_iconst (pc' := 136) dX12_lay_135 rfl ?_
  obtain rfl := Option.some.inj H
  exact j_iret dX12_lay_136 ⟨by decide, by decide⟩ ⟨rfl, rfl, Or.inr rfl⟩
noncomputable def fX12_lay_102 : Nat → Nat → Int → Int → Hp → Option (Int × Hp)
  | 0, _, _, _, _ => none
  | n + 1, x0, x1, x3, h => if 4 ≤ x3 then (fX12_lay_130 x0 h) else ((getR h 11 x0 1).bind fun v2 => (getR h 11 x0 10).bind fun v3 => (ald h 1 v3 x3).bind fun v4 => (ast h 0 v2 ((4 * x1) + x3) (l2w v4)).bind fun h5 => (c32 (x3 + 1)).bind fun _ => fX12_lay_102 n x0 x1 (x3 + 1) h5)
theorem tX12_lay_102 {L : Nat} {xs : Nat → Int32} {l : Launch} {res : Int × Hp} : ∀ (n : Nat) (x0 : Nat) (x1 : Int) (x3 : Int) (h : Hp), R32 x1 → R32 x3 → fX12_lay_102 n x0 x1 x3 h = some res → J L xs l RX12 cX12_lay 4 false 3 (QB res) 0 0 102 [(0, vr x0), (1, vi x1), (3, vi x3)] [] h := by
  intro n
  induction n with
  | zero => intro x0 x1 x3 h rx1 rx3 H; cases H
  | succ n ih =>
    intro x0 x1 x3 h rx1 rx3 H
    rw [fX12_lay_102] at H
    refine j_iload_n (i := 3) (pc' := 103) dX12_lay_102 rfl rfl 2 rfl ?_
    refine j_iconst (pc' := 104) dX12_lay_103 rfl ?_
    refine j_icmp_ge (tgt := 130) (pc' := 107) dX12_lay_104 (by decide) rfl rx3 ⟨by decide, by decide⟩ (fun c1 => ?_) (fun c1 => ?_)
    · rw [if_pos c1] at H
      refine j_sub (lv' := [(0, vr x0)]) [0] rfl ?_
      exact tX12_lay_130   x0 h  H
    · rw [if_neg c1] at H
      refine j_aload_n (i := 0) (pc' := 108) dX12_lay_107 rfl rfl 0 rfl ?_
      obtain ⟨v2, e2, H⟩ := bs H
      refine j_getR (pc' := 111) dX12_lay_108 rfl fl_X12_13 e2 (fun r2 => ?_)
      refine j_iconst (pc' := 112) dX12_lay_111 rfl ?_
      refine j_iload_n (i := 1) (pc' := 113) dX12_lay_112 rfl rfl 1 rfl ?_
      refine j_imul (pc' := 114) dX12_lay_113 rfl ?_
      refine j_iload_n (i := 3) (pc' := 115) dX12_lay_114 rfl rfl 2 rfl ?_
      refine j_iadd (pc' := 116) dX12_lay_115 rfl ?_
      refine j_aload_n (i := 0) (pc' := 117) dX12_lay_116 rfl rfl 0 rfl ?_
      obtain ⟨v3, e3, H⟩ := bs H
      refine j_getR (pc' := 120) dX12_lay_117 rfl fl_X12_33 e3 (fun r3 => ?_)
      refine j_iload_n (i := 3) (pc' := 121) dX12_lay_120 rfl rfl 2 rfl ?_
      obtain ⟨v4, e4, H⟩ := bs H
      refine j_lald (pc' := 122) dX12_lay_121 rfl e4 (fun r4 => ?_)
      refine j_l2i (pc' := 123) dX12_lay_122 rfl ?_
      obtain ⟨h5, e5, H⟩ := bs H
      refine j_iast (pc' := 124) dX12_lay_123 rfl (R32_to _) e5 ?_
      obtain ⟨u6, e6, H⟩ := bs H
      have r6 := c32_R e6
      refine j_iinc (k0 := 2) (lv' := [(0, vr x0), (1, vi x1), (3, vi (x3 + 1))]) (pc' := 127) dX12_lay_124 rfl rfl (by decide) [1, 2, 0] rfl ?_
      refine j_goto (tgt := 102) dX12_lay_127 (by decide) ?_
      exact ih x0 x1 (x3 + 1) h5 rx1 r6 H
noncomputable def fX12_lay_68 (x0 : Nat) (x1 : Int) (x2 : Int) (h : Hp) : Option (Int × Hp) :=
  if x2 = 0 then (fX12_lay_80 x0 x2 h) else ((getI h 11 x0 8).bind fun v2 => if v2 = (-1) then (fX12_lay_80 x0 x2 h) else ((cob h 11 x0).bind fun _ => (fX12_change x0 h).bind fun h5 => fX12_lay_102 FU x0 x1 0 h5))
theorem tX12_lay_68 {L : Nat} {xs : Nat → Int32} {l : Launch} {res : Int × Hp} (x0 : Nat) (x1 : Int) (x2 : Int) (h : Hp) (rx1 : R32 x1) (rx2 : R32 x2) (H : fX12_lay_68 x0 x1 x2 h = some res) : J L xs l RX12 cX12_lay 4 false 3 (QB res) 0 0 68 [(0, vr x0), (1, vi x1), (2, vi x2)] [] h := by
  unfold fX12_lay_68 at H
  refine j_iload_n (i := 2) (pc' := 69) dX12_lay_68 rfl rfl 2 rfl ?_
  refine j_if_eq (tgt := 80) (pc' := 72) dX12_lay_69 (by decide) rfl rx2 (fun c1 => ?_) (fun c1 => ?_)
  · rw [if_pos c1] at H
    refine j_sub (lv' := [(0, vr x0), (2, vi x2)]) [0, 2] rfl ?_
    exact tX12_lay_80   x0 x2 h rx2 H
  · rw [if_neg c1] at H
    refine j_aload_n (i := 0) (pc' := 73) dX12_lay_72 rfl rfl 0 rfl ?_
    obtain ⟨v2, e2, H⟩ := bs H
    refine j_getI (pc' := 76) dX12_lay_73 rfl fl_X12_29 e2 (fun r2 => ?_)
    refine j_iconst (pc' := 77) dX12_lay_76 rfl ?_
    refine j_icmp_ne (tgt := 96) (pc' := 80) dX12_lay_77 (by decide) rfl r2 ⟨by decide, by decide⟩ (fun c3 => ?_) (fun c3 => ?_)
    · rw [if_neg c3] at H
      refine j_aload_n (i := 0) (pc' := 97) dX12_lay_96 rfl rfl 0 rfl ?_
      obtain ⟨u4, e4, H⟩ := bs H
      obtain ⟨h5, e5, H⟩ := bs H
      refine j_cVv (y := yX12_change) (dY := 2) (vs := []) (st := []) (q := x0) (pc' := 100) dX12_lay_97 rfl ymX12_change yvX12_change ml_X12_102 (by decide) rfl (Nat.le_of_ble_eq_true rfl) (Nat.le_of_ble_eq_true rfl) e4 (tX12_change x0 h e5) (fun z5 => ?_)
      refine j_iconst (pc' := 101) dX12_lay_100 rfl ?_
      refine j_istore_n (i := 3) (lv' := [(0, vr x0), (1, vi x1), (2, vi x2), (3, vi 0)]) (pc' := 102) dX12_lay_101 rfl rfl (by decide) [1, 2, 3, 0] rfl ?_
      refine j_sub (lv' := [(0, vr x0), (1, vi x1), (3, vi 0)]) [0, 1, 3] rfl ?_
      exact tX12_lay_102   FU x0 x1 0 h5 rx1 ⟨by decide, by decide⟩ H
    · rw [if_pos c3] at H
      refine j_sub (lv' := [(0, vr x0), (2, vi x2)]) [0, 2] rfl ?_
      exact tX12_lay_80   x0 x2 h rx2 H
noncomputable def fX12_lay_61 (k13 : Nat → Int → Int → Int → Hp → Option (Int × Hp)) (x0 : Nat) (x1 : Int) (x3 : Int) (s0 : Int) (h : Hp) : Option (Int × Hp) :=
  (c32 (x3 + 1)).bind fun _ => k13 x0 x1 s0 (x3 + 1) h
theorem tX12_lay_61 {L : Nat} {xs : Nat → Int32} {l : Launch} {res : Int × Hp} (k13 : Nat → Int → Int → Int → Hp → Option (Int × Hp)) (hk13 : ∀ (x0 : Nat) (x1 : Int) (x2 : Int) (x3 : Int) (h : Hp), R32 x1 → R32 x2 → R32 x3 → k13 x0 x1 x2 x3 h = some res → J L xs l RX12 cX12_lay 4 false 3 (QB res) 0 0 13 [(0, vr x0), (1, vi x1), (2, vi x2), (3, vi x3)] [] h) (x0 : Nat) (x1 : Int) (x3 : Int) (s0 : Int) (h : Hp) (rx1 : R32 x1) (rx3 : R32 x3) (rs0 : R32 s0) (H : fX12_lay_61 k13 x0 x1 x3 s0 h = some res) : J L xs l RX12 cX12_lay 4 false 3 (QB res) 0 0 61 [(0, vr x0), (1, vi x1), (3, vi x3)] [vi s0] h := by
  unfold fX12_lay_61 at H
  refine j_istore_n (i := 2) (lv' := [(0, vr x0), (1, vi x1), (2, vi s0), (3, vi x3)]) (pc' := 62) dX12_lay_61 rfl rfl (by decide) [1, 2, 0, 3] rfl ?_
  obtain ⟨u1, e1, H⟩ := bs H
  have r1 := c32_R e1
  refine j_iinc (k0 := 3) (lv' := [(0, vr x0), (1, vi x1), (2, vi s0), (3, vi (x3 + 1))]) (pc' := 65) dX12_lay_62 rfl rfl (by decide) [1, 2, 3, 0] rfl ?_
  refine j_goto (tgt := 13) dX12_lay_65 (by decide) ?_
  exact hk13 x0 x1 s0 (x3 + 1) h rx1 rs0 r1 H
noncomputable def fX12_lay_60 (k13 : Nat → Int → Int → Int → Hp → Option (Int × Hp)) (x0 : Nat) (x1 : Int) (x3 : Int) (h : Hp) : Option (Int × Hp) :=
  fX12_lay_61 k13 x0 x1 x3 0 h
theorem tX12_lay_60 {L : Nat} {xs : Nat → Int32} {l : Launch} {res : Int × Hp} (k13 : Nat → Int → Int → Int → Hp → Option (Int × Hp)) (hk13 : ∀ (x0 : Nat) (x1 : Int) (x2 : Int) (x3 : Int) (h : Hp), R32 x1 → R32 x2 → R32 x3 → k13 x0 x1 x2 x3 h = some res → J L xs l RX12 cX12_lay 4 false 3 (QB res) 0 0 13 [(0, vr x0), (1, vi x1), (2, vi x2), (3, vi x3)] [] h) (x0 : Nat) (x1 : Int) (x3 : Int) (h : Hp) (rx1 : R32 x1) (rx3 : R32 x3) (H : fX12_lay_60 k13 x0 x1 x3 h = some res) : J L xs l RX12 cX12_lay 4 false 3 (QB res) 0 0 60 [(0, vr x0), (1, vi x1), (3, vi x3)] [] h := by
  unfold fX12_lay_60 at H
  refine j_iconst (pc' := 61) dX12_lay_60 rfl ?_
  exact tX12_lay_61 _ hk13 x0 x1 x3 0 h rx1 rx3 ⟨by decide, by decide⟩ H
noncomputable def fX12_lay_13 : Nat → Nat → Int → Int → Int → Hp → Option (Int × Hp)
  | 0, _, _, _, _, _ => none
  | n + 1, x0, x1, x2, x3, h => if 4 ≤ x3 then (fX12_lay_68 x0 x1 x2 h) else ((getI h 11 x0 8).bind fun v2 => if v2 = (-1) then (fX12_lay_68 x0 x1 x2 h) else (if x2 = 0 then (fX12_lay_60 (fX12_lay_13 n) x0 x1 x3 h) else ((getR h 11 x0 10).bind fun v5 => (ald h 1 v5 x3).bind fun v6 => if (lCmp v6 (-1000)) < 0 then (fX12_lay_60 (fX12_lay_13 n) x0 x1 x3 h) else ((getR h 11 x0 10).bind fun v8 => (ald h 1 v8 x3).bind fun v9 => if 0 < (lCmp v9 1000) then (fX12_lay_60 (fX12_lay_13 n) x0 x1 x3 h) else (fX12_lay_61 (fX12_lay_13 n) x0 x1 x3 1 h)))))
theorem tX12_lay_13 {L : Nat} {xs : Nat → Int32} {l : Launch} {res : Int × Hp} : ∀ (n : Nat) (x0 : Nat) (x1 : Int) (x2 : Int) (x3 : Int) (h : Hp), R32 x1 → R32 x2 → R32 x3 → fX12_lay_13 n x0 x1 x2 x3 h = some res → J L xs l RX12 cX12_lay 4 false 3 (QB res) 0 0 13 [(0, vr x0), (1, vi x1), (2, vi x2), (3, vi x3)] [] h := by
  intro n
  induction n with
  | zero => intro x0 x1 x2 x3 h rx1 rx2 rx3 H; cases H
  | succ n ih =>
    intro x0 x1 x2 x3 h rx1 rx2 rx3 H
    rw [fX12_lay_13] at H
    refine j_iload_n (i := 3) (pc' := 14) dX12_lay_13 rfl rfl 3 rfl ?_
    refine j_iconst (pc' := 15) dX12_lay_14 rfl ?_
    refine j_icmp_ge (tgt := 68) (pc' := 18) dX12_lay_15 (by decide) rfl rx3 ⟨by decide, by decide⟩ (fun c1 => ?_) (fun c1 => ?_)
    · rw [if_pos c1] at H
      refine j_sub (lv' := [(0, vr x0), (1, vi x1), (2, vi x2)]) [0, 1, 2] rfl ?_
      exact tX12_lay_68   x0 x1 x2 h rx1 rx2 H
    · rw [if_neg c1] at H
      refine j_aload_n (i := 0) (pc' := 19) dX12_lay_18 rfl rfl 0 rfl ?_
      obtain ⟨v2, e2, H⟩ := bs H
      refine j_getI (pc' := 22) dX12_lay_19 rfl fl_X12_29 e2 (fun r2 => ?_)
      refine j_iconst (pc' := 23) dX12_lay_22 rfl ?_
      refine j_icmp_eq (tgt := 68) (pc' := 26) dX12_lay_23 (by decide) rfl r2 ⟨by decide, by decide⟩ (fun c3 => ?_) (fun c3 => ?_)
      · rw [if_pos c3] at H
        refine j_sub (lv' := [(0, vr x0), (1, vi x1), (2, vi x2)]) [0, 1, 2] rfl ?_
        exact tX12_lay_68   x0 x1 x2 h rx1 rx2 H
      · rw [if_neg c3] at H
        refine j_iload_n (i := 2) (pc' := 27) dX12_lay_26 rfl rfl 2 rfl ?_
        refine j_if_eq (tgt := 60) (pc' := 30) dX12_lay_27 (by decide) rfl rx2 (fun c4 => ?_) (fun c4 => ?_)
        · rw [if_pos c4] at H
          refine j_sub (lv' := [(0, vr x0), (1, vi x1), (3, vi x3)]) [0, 1, 3] rfl ?_
          exact tX12_lay_60 _ ih x0 x1 x3 h rx1 rx3 H
        · rw [if_neg c4] at H
          refine j_aload_n (i := 0) (pc' := 31) dX12_lay_30 rfl rfl 0 rfl ?_
          obtain ⟨v5, e5, H⟩ := bs H
          refine j_getR (pc' := 34) dX12_lay_31 rfl fl_X12_33 e5 (fun r5 => ?_)
          refine j_iload_n (i := 3) (pc' := 35) dX12_lay_34 rfl rfl 3 rfl ?_
          obtain ⟨v6, e6, H⟩ := bs H
          refine j_lald (pc' := 36) dX12_lay_35 rfl e6 (fun r6 => ?_)
          refine j_ldc2 (z := (-1000)) (pc' := 39) dX12_lay_36 rfl kk_X12_116 (by decide +kernel) ?_
          refine j_lcmp (pc' := 40) dX12_lay_39 rfl r6 ⟨by decide, by decide⟩ ?_
          refine j_if_lt (tgt := 60) (pc' := 43) dX12_lay_40 (by decide) rfl (R32_lcmp _ _) (fun c7 => ?_) (fun c7 => ?_)
          · rw [if_pos c7] at H
            refine j_sub (lv' := [(0, vr x0), (1, vi x1), (3, vi x3)]) [0, 1, 3] rfl ?_
            exact tX12_lay_60 _ ih x0 x1 x3 h rx1 rx3 H
          · rw [if_neg c7] at H
            refine j_aload_n (i := 0) (pc' := 44) dX12_lay_43 rfl rfl 0 rfl ?_
            obtain ⟨v8, e8, H⟩ := bs H
            refine j_getR (pc' := 47) dX12_lay_44 rfl fl_X12_33 e8 (fun r8 => ?_)
            refine j_iload_n (i := 3) (pc' := 48) dX12_lay_47 rfl rfl 3 rfl ?_
            obtain ⟨v9, e9, H⟩ := bs H
            refine j_lald (pc' := 49) dX12_lay_48 rfl e9 (fun r9 => ?_)
            refine j_ldc2 (z := 1000) (pc' := 52) dX12_lay_49 rfl kk_X12_118 (by decide +kernel) ?_
            refine j_lcmp (pc' := 53) dX12_lay_52 rfl r9 ⟨by decide, by decide⟩ ?_
            refine j_if_gt (tgt := 60) (pc' := 56) dX12_lay_53 (by decide) rfl (R32_lcmp _ _) (fun c10 => ?_) (fun c10 => ?_)
            · rw [if_pos c10] at H
              refine j_sub (lv' := [(0, vr x0), (1, vi x1), (3, vi x3)]) [0, 1, 3] rfl ?_
              exact tX12_lay_60 _ ih x0 x1 x3 h rx1 rx3 H
            · rw [if_neg c10] at H
              refine j_iconst (pc' := 57) dX12_lay_56 rfl ?_
              refine j_goto (tgt := 61) dX12_lay_57 (by decide) ?_
              refine j_sub (lv' := [(0, vr x0), (1, vi x1), (3, vi x3)]) [0, 1, 3] rfl ?_
              exact tX12_lay_61 _ ih x0 x1 x3 1 h rx1 rx3 ⟨by decide, by decide⟩ H
noncomputable def fX12_lay (a0 : Nat) (a1 : Int) (h : Hp) : Option (Int × Hp) :=
  (putV h 11 a0 19 (vi 0)).bind fun h1 => (cob h1 11 a0).bind fun _ => (fX12_isThing a0 a1 h1).bind fun p3 => fX12_lay_13 FU a0 a1 p3.1 0 p3.2
theorem tX12_lay {L : Nat} {xs : Nat → Int32} {l : Launch} {res : Int × Hp} (a0 : Nat) (a1 : Int) (h : Hp) (ra1 : R32 a1) (H : fX12_lay a0 a1 h = some res) : J L xs l RX12 cX12_lay 4 false 3 (QB res) 0 0 0 (alv 0 [vr a0, vi a1]) [] h := by
  unfold fX12_lay at H
  show J L xs l RX12 cX12_lay 4 false 3 (QB res) 0 0 0 [(0, vr a0), (1, vi a1)] [] h
  refine j_aload_n (i := 0) (pc' := 1) dX12_lay_0 rfl rfl 0 rfl ?_
  refine j_iconst (pc' := 2) dX12_lay_1 rfl ?_
  obtain ⟨h1, e1, H⟩ := bs H
  refine j_putV (pc' := 5) dX12_lay_2 rfl fp_X12_77 tI ⟨by decide, by decide⟩ e1 ?_
  refine j_aload_n (i := 0) (pc' := 6) dX12_lay_5 rfl rfl 0 rfl ?_
  refine j_iload_n (i := 1) (pc' := 7) dX12_lay_6 rfl rfl 1 rfl ?_
  obtain ⟨u2, e2, H⟩ := bs H
  obtain ⟨p3, e3, H⟩ := bs H
  refine j_cVb (y := yX12_isThing) (dY := 2) (vs := [vi a1]) (st := []) (q := a0) (pc' := 10) dX12_lay_7 rfl ymX12_isThing yvX12_isThing ml_X12_94 (by decide) rfl (Nat.le_of_ble_eq_true rfl) (Nat.le_of_ble_eq_true rfl) e2 (tX12_isThing a0 a1 h1 ra1 e3) (fun r3 b3 z3 => ?_)
  refine j_istore_n (i := 2) (lv' := [(0, vr a0), (1, vi a1), (2, vi p3.1)]) (pc' := 11) dX12_lay_10 rfl rfl (by decide) [1, 2, 0] rfl ?_
  refine j_iconst (pc' := 12) dX12_lay_11 rfl ?_
  refine j_istore_n (i := 3) (lv' := [(0, vr a0), (1, vi a1), (2, vi p3.1), (3, vi 0)]) (pc' := 13) dX12_lay_12 rfl rfl (by decide) [1, 2, 3, 0] rfl ?_
  exact tX12_lay_13   FU a0 a1 p3.1 0 p3.2 ra1 r3 ⟨by decide, by decide⟩ H
-- X12_measure
noncomputable def fX12_measure_14 (x0 : Nat) (h : Hp) : Option (Int × Hp) :=
  (cob h 11 x0).bind fun _ => (fX12_no x0 1 h).bind fun p2 => some (p2.1, p2.2)
theorem tX12_measure_14 {L : Nat} {xs : Nat → Int32} {l : Launch} {res : Int × Hp} (x0 : Nat) (h : Hp)  (H : fX12_measure_14 x0 h = some res) : J L xs l RX12 cX12_measure 8 false 3 (QI res) 0 0 14 [(0, vr x0)] [] h := by
  unfold fX12_measure_14 at H
  refine j_aload_n (i := 0) (pc' := 15) dX12_measure_14 rfl rfl 0 rfl ?_
  refine j_iconst (pc' := 16) dX12_measure_15 rfl ?_
  obtain ⟨u1, e1, H⟩ := bs H
  obtain ⟨p2, e2, H⟩ := bs H
  refine j_cVi (y := yX12_no) (dY := 1) (vs := [vi 1]) (st := []) (q := x0) (pc' := 19) dX12_measure_16 rfl ymX12_no yvX12_no ml_X12_98 (by decide) rfl (Nat.le_of_ble_eq_true rfl) (Nat.le_of_ble_eq_true rfl) e1 (tX12_no x0 1 h ⟨by decide, by decide⟩ e2) (fun r2 z2 => ?_)
  obtain rfl := Option.some.inj H
  exact j_iret dX12_measure_19 r2 ⟨rfl, rfl⟩
noncomputable def fX12_measure_180 (x2 : Int) (h : Hp) : Option (Int × Hp) :=
  some (x2, h)
theorem tX12_measure_180 {L : Nat} {xs : Nat → Int32} {l : Launch} {res : Int × Hp} (x2 : Int) (h : Hp) (rx2 : R32 x2) (H : fX12_measure_180 x2 h = some res) : J L xs l RX12 cX12_measure 8 false 3 (QI res) 0 0 180 [(2, vi x2)] [] h := by
  unfold fX12_measure_180 at H
  refine j_iload_n (i := 2) (pc' := 181) dX12_measure_180 rfl rfl 0 rfl ?_
  obtain rfl := Option.some.inj H
  exact j_iret dX12_measure_181 rx2 ⟨rfl, rfl⟩
noncomputable def fX12_measure_174 (k28 : Nat → Int → Int → Int → Hp → Option (Int × Hp)) (x0 : Nat) (x1 : Int) (x2 : Int) (x3 : Int) (h : Hp) : Option (Int × Hp) :=
  (c32 (x3 + 1)).bind fun _ => k28 x0 x1 x2 (x3 + 1) h
theorem tX12_measure_174 {L : Nat} {xs : Nat → Int32} {l : Launch} {res : Int × Hp} (k28 : Nat → Int → Int → Int → Hp → Option (Int × Hp)) (hk28 : ∀ (x0 : Nat) (x1 : Int) (x2 : Int) (x3 : Int) (h : Hp), R32 x1 → R32 x2 → R32 x3 → k28 x0 x1 x2 x3 h = some res → J L xs l RX12 cX12_measure 8 false 3 (QI res) 0 0 28 [(0, vr x0), (1, vi x1), (2, vi x2), (3, vi x3)] [] h) (x0 : Nat) (x1 : Int) (x2 : Int) (x3 : Int) (h : Hp) (rx1 : R32 x1) (rx2 : R32 x2) (rx3 : R32 x3) (H : fX12_measure_174 k28 x0 x1 x2 x3 h = some res) : J L xs l RX12 cX12_measure 8 false 3 (QI res) 0 0 174 [(0, vr x0), (1, vi x1), (2, vi x2), (3, vi x3)] [] h := by
  unfold fX12_measure_174 at H
  obtain ⟨u1, e1, H⟩ := bs H
  have r1 := c32_R e1
  refine j_iinc (k0 := 3) (lv' := [(0, vr x0), (1, vi x1), (2, vi x2), (3, vi (x3 + 1))]) (pc' := 177) dX12_measure_174 rfl rfl (by decide) [1, 2, 3, 0] rfl ?_
  refine j_goto (tgt := 28) dX12_measure_177 (by decide) ?_
  exact hk28 x0 x1 x2 (x3 + 1) h rx1 rx2 r1 H
noncomputable def fX12_measure_165 (k28 : Nat → Int → Int → Int → Hp → Option (Int × Hp)) (k41 : Nat → Int → Int → Int → Int → Hp → Option (Int × Hp)) (x0 : Nat) (x1 : Int) (x2 : Int) (x3 : Int) (x4 : Int) (s0 : Int) (s1 : Int) (s2 : Int) (s3 : Nat) (h : Hp) : Option (Int × Hp) :=
  (cob h 11 s3).bind fun _ => (fX12_setWay s3 s2 s1 s0 h).bind fun h2 => (c32 (x4 + 1)).bind fun _ => k41 x0 x1 x2 x3 (x4 + 1) h2
theorem tX12_measure_165 {L : Nat} {xs : Nat → Int32} {l : Launch} {res : Int × Hp} (k28 : Nat → Int → Int → Int → Hp → Option (Int × Hp)) (k41 : Nat → Int → Int → Int → Int → Hp → Option (Int × Hp)) (hk28 : ∀ (x0 : Nat) (x1 : Int) (x2 : Int) (x3 : Int) (h : Hp), R32 x1 → R32 x2 → R32 x3 → k28 x0 x1 x2 x3 h = some res → J L xs l RX12 cX12_measure 8 false 3 (QI res) 0 0 28 [(0, vr x0), (1, vi x1), (2, vi x2), (3, vi x3)] [] h) (hk41 : ∀ (x0 : Nat) (x1 : Int) (x2 : Int) (x3 : Int) (x4 : Int) (h : Hp), R32 x1 → R32 x2 → R32 x3 → R32 x4 → k41 x0 x1 x2 x3 x4 h = some res → J L xs l RX12 cX12_measure 8 false 3 (QI res) 0 0 41 [(0, vr x0), (1, vi x1), (2, vi x2), (3, vi x3), (4, vi x4)] [] h) (x0 : Nat) (x1 : Int) (x2 : Int) (x3 : Int) (x4 : Int) (s0 : Int) (s1 : Int) (s2 : Int) (s3 : Nat) (h : Hp) (rx1 : R32 x1) (rx2 : R32 x2) (rx3 : R32 x3) (rx4 : R32 x4) (rs0 : R32 s0) (rs1 : R32 s1) (rs2 : R32 s2) (H : fX12_measure_165 k28 k41 x0 x1 x2 x3 x4 s0 s1 s2 s3 h = some res) : J L xs l RX12 cX12_measure 8 false 3 (QI res) 0 0 165 [(0, vr x0), (1, vi x1), (2, vi x2), (3, vi x3), (4, vi x4)] [vi s0, vi s1, vi s2, vr s3] h := by
  unfold fX12_measure_165 at H
  obtain ⟨u1, e1, H⟩ := bs H
  obtain ⟨h2, e2, H⟩ := bs H
  refine j_cVv (y := yX12_setWay) (dY := 1) (vs := [vi s2, vi s1, vi s0]) (st := []) (q := s3) (pc' := 168) dX12_measure_165 rfl ymX12_setWay yvX12_setWay ml_X12_109 (by decide) rfl (Nat.le_of_ble_eq_true rfl) (Nat.le_of_ble_eq_true rfl) e1 (tX12_setWay s3 s2 s1 s0 h rs2 rs1 rs0 e2) (fun z2 => ?_)
  obtain ⟨u3, e3, H⟩ := bs H
  have r3 := c32_R e3
  refine j_iinc (k0 := 4) (lv' := [(0, vr x0), (1, vi x1), (2, vi x2), (3, vi x3), (4, vi (x4 + 1))]) (pc' := 171) dX12_measure_168 rfl rfl (by decide) [1, 2, 3, 4, 0] rfl ?_
  refine j_goto (tgt := 41) dX12_measure_171 (by decide) ?_
  exact hk41 x0 x1 x2 x3 (x4 + 1) h2 rx1 rx2 rx3 r3 H
noncomputable def fX12_measure_145 (k28 : Nat → Int → Int → Int → Hp → Option (Int × Hp)) (k41 : Nat → Int → Int → Int → Int → Hp → Option (Int × Hp)) (x0 : Nat) (x1 : Int) (x2 : Int) (x3 : Int) (x4 : Int) (x5 : Int) (h : Hp) : Option (Int × Hp) :=
  if x5 ≤ 10000 then (fX12_measure_165 k28 k41 x0 x1 x2 x3 x4 x5 x4 x3 x0 h) else (fX12_measure_165 k28 k41 x0 x1 x2 x3 x4 10000 x4 x3 x0 h)
theorem tX12_measure_145 {L : Nat} {xs : Nat → Int32} {l : Launch} {res : Int × Hp} (k28 : Nat → Int → Int → Int → Hp → Option (Int × Hp)) (k41 : Nat → Int → Int → Int → Int → Hp → Option (Int × Hp)) (hk28 : ∀ (x0 : Nat) (x1 : Int) (x2 : Int) (x3 : Int) (h : Hp), R32 x1 → R32 x2 → R32 x3 → k28 x0 x1 x2 x3 h = some res → J L xs l RX12 cX12_measure 8 false 3 (QI res) 0 0 28 [(0, vr x0), (1, vi x1), (2, vi x2), (3, vi x3)] [] h) (hk41 : ∀ (x0 : Nat) (x1 : Int) (x2 : Int) (x3 : Int) (x4 : Int) (h : Hp), R32 x1 → R32 x2 → R32 x3 → R32 x4 → k41 x0 x1 x2 x3 x4 h = some res → J L xs l RX12 cX12_measure 8 false 3 (QI res) 0 0 41 [(0, vr x0), (1, vi x1), (2, vi x2), (3, vi x3), (4, vi x4)] [] h) (x0 : Nat) (x1 : Int) (x2 : Int) (x3 : Int) (x4 : Int) (x5 : Int) (h : Hp) (rx1 : R32 x1) (rx2 : R32 x2) (rx3 : R32 x3) (rx4 : R32 x4) (rx5 : R32 x5) (H : fX12_measure_145 k28 k41 x0 x1 x2 x3 x4 x5 h = some res) : J L xs l RX12 cX12_measure 8 false 3 (QI res) 0 0 145 [(0, vr x0), (1, vi x1), (2, vi x2), (3, vi x3), (4, vi x4), (5, vi x5)] [] h := by
  unfold fX12_measure_145 at H
  refine j_aload_n (i := 0) (pc' := 146) dX12_measure_145 rfl rfl 0 rfl ?_
  refine j_iload_n (i := 3) (pc' := 147) dX12_measure_146 rfl rfl 3 rfl ?_
  refine j_iload (pc' := 149) dX12_measure_147 rfl 4 rfl ?_
  refine j_iload (pc' := 151) dX12_measure_149 rfl 5 rfl ?_
  refine j_sipush (pc' := 154) dX12_measure_151 rfl (by decide +kernel) ?_
  refine j_icmp_le (tgt := 163) (pc' := 157) dX12_measure_154 (by decide) rfl rx5 ⟨by decide, by decide⟩ (fun c1 => ?_) (fun c1 => ?_)
  · rw [if_pos c1] at H
    refine j_iload (pc' := 165) dX12_measure_163 rfl 5 rfl ?_
    refine j_sub (lv' := [(0, vr x0), (1, vi x1), (2, vi x2), (3, vi x3), (4, vi x4)]) [0, 1, 2, 3, 4] rfl ?_
    exact tX12_measure_165 _ _ hk28 hk41 x0 x1 x2 x3 x4 x5 x4 x3 x0 h rx1 rx2 rx3 rx4 rx5 rx4 rx3 H
  · rw [if_neg c1] at H
    refine j_sipush (pc' := 160) dX12_measure_157 rfl (by decide +kernel) ?_
    refine j_goto (tgt := 165) dX12_measure_160 (by decide) ?_
    refine j_sub (lv' := [(0, vr x0), (1, vi x1), (2, vi x2), (3, vi x3), (4, vi x4)]) [0, 1, 2, 3, 4] rfl ?_
    exact tX12_measure_165 _ _ hk28 hk41 x0 x1 x2 x3 x4 10000 x4 x3 x0 h rx1 rx2 rx3 rx4 ⟨by decide, by decide⟩ rx4 rx3 H
noncomputable def fX12_measure_134 (k28 : Nat → Int → Int → Int → Hp → Option (Int × Hp)) (k41 : Nat → Int → Int → Int → Int → Hp → Option (Int × Hp)) (x0 : Nat) (x1 : Int) (x2 : Int) (x3 : Int) (x4 : Int) (x5 : Int) (h : Hp) : Option (Int × Hp) :=
  if x5 ≤ 10000 then (fX12_measure_145 k28 k41 x0 x1 x2 x3 x4 x5 h) else ((c32 (x2 + 1)).bind fun _ => fX12_measure_145 k28 k41 x0 x1 (x2 + 1) x3 x4 x5 h)
theorem tX12_measure_134 {L : Nat} {xs : Nat → Int32} {l : Launch} {res : Int × Hp} (k28 : Nat → Int → Int → Int → Hp → Option (Int × Hp)) (k41 : Nat → Int → Int → Int → Int → Hp → Option (Int × Hp)) (hk28 : ∀ (x0 : Nat) (x1 : Int) (x2 : Int) (x3 : Int) (h : Hp), R32 x1 → R32 x2 → R32 x3 → k28 x0 x1 x2 x3 h = some res → J L xs l RX12 cX12_measure 8 false 3 (QI res) 0 0 28 [(0, vr x0), (1, vi x1), (2, vi x2), (3, vi x3)] [] h) (hk41 : ∀ (x0 : Nat) (x1 : Int) (x2 : Int) (x3 : Int) (x4 : Int) (h : Hp), R32 x1 → R32 x2 → R32 x3 → R32 x4 → k41 x0 x1 x2 x3 x4 h = some res → J L xs l RX12 cX12_measure 8 false 3 (QI res) 0 0 41 [(0, vr x0), (1, vi x1), (2, vi x2), (3, vi x3), (4, vi x4)] [] h) (x0 : Nat) (x1 : Int) (x2 : Int) (x3 : Int) (x4 : Int) (x5 : Int) (h : Hp) (rx1 : R32 x1) (rx2 : R32 x2) (rx3 : R32 x3) (rx4 : R32 x4) (rx5 : R32 x5) (H : fX12_measure_134 k28 k41 x0 x1 x2 x3 x4 x5 h = some res) : J L xs l RX12 cX12_measure 8 false 3 (QI res) 0 0 134 [(0, vr x0), (1, vi x1), (2, vi x2), (3, vi x3), (4, vi x4), (5, vi x5)] [] h := by
  unfold fX12_measure_134 at H
  refine j_iload (pc' := 136) dX12_measure_134 rfl 5 rfl ?_
  refine j_sipush (pc' := 139) dX12_measure_136 rfl (by decide +kernel) ?_
  refine j_icmp_le (tgt := 145) (pc' := 142) dX12_measure_139 (by decide) rfl rx5 ⟨by decide, by decide⟩ (fun c1 => ?_) (fun c1 => ?_)
  · rw [if_pos c1] at H
    exact tX12_measure_145 _ _ hk28 hk41 x0 x1 x2 x3 x4 x5 h rx1 rx2 rx3 rx4 rx5 H
  · rw [if_neg c1] at H
    obtain ⟨u2, e2, H⟩ := bs H
    have r2 := c32_R e2
    refine j_iinc (k0 := 2) (lv' := [(0, vr x0), (1, vi x1), (2, vi (x2 + 1)), (3, vi x3), (4, vi x4), (5, vi x5)]) (pc' := 145) dX12_measure_142 rfl rfl (by decide) [1, 2, 0, 3, 4, 5] rfl ?_
    exact tX12_measure_145 _ _ hk28 hk41 x0 x1 (x2 + 1) x3 x4 x5 h rx1 r2 rx3 rx4 rx5 H
noncomputable def fX12_measure_126 (k28 : Nat → Int → Int → Int → Hp → Option (Int × Hp)) (k41 : Nat → Int → Int → Int → Int → Hp → Option (Int × Hp)) (k56 : Nat → Int → Int → Int → Int → Int → Int → Hp → Option (Int × Hp)) (x0 : Nat) (x1 : Int) (x2 : Int) (x3 : Int) (x4 : Int) (x6 : Int) (s0 : Int) (h : Hp) : Option (Int × Hp) :=
  (c32 (x6 + 1)).bind fun _ => k56 x0 x1 x2 x3 x4 s0 (x6 + 1) h
theorem tX12_measure_126 {L : Nat} {xs : Nat → Int32} {l : Launch} {res : Int × Hp} (k28 : Nat → Int → Int → Int → Hp → Option (Int × Hp)) (k41 : Nat → Int → Int → Int → Int → Hp → Option (Int × Hp)) (k56 : Nat → Int → Int → Int → Int → Int → Int → Hp → Option (Int × Hp)) (hk28 : ∀ (x0 : Nat) (x1 : Int) (x2 : Int) (x3 : Int) (h : Hp), R32 x1 → R32 x2 → R32 x3 → k28 x0 x1 x2 x3 h = some res → J L xs l RX12 cX12_measure 8 false 3 (QI res) 0 0 28 [(0, vr x0), (1, vi x1), (2, vi x2), (3, vi x3)] [] h) (hk41 : ∀ (x0 : Nat) (x1 : Int) (x2 : Int) (x3 : Int) (x4 : Int) (h : Hp), R32 x1 → R32 x2 → R32 x3 → R32 x4 → k41 x0 x1 x2 x3 x4 h = some res → J L xs l RX12 cX12_measure 8 false 3 (QI res) 0 0 41 [(0, vr x0), (1, vi x1), (2, vi x2), (3, vi x3), (4, vi x4)] [] h) (hk56 : ∀ (x0 : Nat) (x1 : Int) (x2 : Int) (x3 : Int) (x4 : Int) (x5 : Int) (x6 : Int) (h : Hp), R32 x1 → R32 x2 → R32 x3 → R32 x4 → R32 x5 → R32 x6 → k56 x0 x1 x2 x3 x4 x5 x6 h = some res → J L xs l RX12 cX12_measure 8 false 3 (QI res) 0 0 56 [(0, vr x0), (1, vi x1), (2, vi x2), (3, vi x3), (4, vi x4), (5, vi x5), (6, vi x6)] [] h) (x0 : Nat) (x1 : Int) (x2 : Int) (x3 : Int) (x4 : Int) (x6 : Int) (s0 : Int) (h : Hp) (rx1 : R32 x1) (rx2 : R32 x2) (rx3 : R32 x3) (rx4 : R32 x4) (rx6 : R32 x6) (rs0 : R32 s0) (H : fX12_measure_126 k28 k41 k56 x0 x1 x2 x3 x4 x6 s0 h = some res) : J L xs l RX12 cX12_measure 8 false 3 (QI res) 0 0 126 [(0, vr x0), (1, vi x1), (2, vi x2), (3, vi x3), (4, vi x4), (6, vi x6)] [vi s0] h := by
  unfold fX12_measure_126 at H
  refine j_istore (lv' := [(0, vr x0), (1, vi x1), (2, vi x2), (3, vi x3), (4, vi x4), (5, vi s0), (6, vi x6)]) (pc' := 128) dX12_measure_126 rfl (by decide) [1, 2, 3, 4, 5, 0, 6] rfl ?_
  obtain ⟨u1, e1, H⟩ := bs H
  have r1 := c32_R e1
  refine j_iinc (k0 := 6) (lv' := [(0, vr x0), (1, vi x1), (2, vi x2), (3, vi x3), (4, vi x4), (5, vi s0), (6, vi (x6 + 1))]) (pc' := 131) dX12_measure_128 rfl rfl (by decide) [1, 2, 3, 4, 5, 6, 0] rfl ?_
  refine j_goto (tgt := 56) dX12_measure_131 (by decide) ?_
  exact hk56 x0 x1 x2 x3 x4 s0 (x6 + 1) h rx1 rx2 rx3 rx4 rs0 r1 H
noncomputable def fX12_measure_56 (k28 : Nat → Int → Int → Int → Hp → Option (Int × Hp)) (k41 : Nat → Int → Int → Int → Int → Hp → Option (Int × Hp)) : Nat → Nat → Int → Int → Int → Int → Int → Int → Hp → Option (Int × Hp)
  | 0, _, _, _, _, _, _, _, _ => none
  | n + 1, x0, x1, x2, x3, x4, x5, x6, h => if 4 ≤ x6 then (fX12_measure_134 k28 k41 x0 x1 x2 x3 x4 x5 h) else ((getR h 11 x0 1).bind fun v2 => (ald h 0 v2 ((4 * x3) + x6)).bind fun v3 => (getR h 11 x0 1).bind fun v4 => (ald h 0 v4 ((4 * x4) + x6)).bind fun v5 => (c32 (v3 - v5)).bind fun _ => (c32 (max (v3 - v5) (-(v3 - v5)))).bind fun _ => if x1 = 0 then ((c32 (x5 + (max (v3 - v5) (-(v3 - v5))))).bind fun _ => fX12_measure_126 k28 k41 (fX12_measure_56 k28 k41 n) x0 x1 x2 x3 x4 x6 (x5 + (max (v3 - v5) (-(v3 - v5)))) h) else (if x1 = 1 then (fX12_measure_126 k28 k41 (fX12_measure_56 k28 k41 n) x0 x1 x2 x3 x4 x6 (max x5 (max (v3 - v5) (-(v3 - v5)))) h) else ((c32 (x5 + ((max (v3 - v5) (-(v3 - v5))) * (max (v3 - v5) (-(v3 - v5)))))).bind fun _ => fX12_measure_126 k28 k41 (fX12_measure_56 k28 k41 n) x0 x1 x2 x3 x4 x6 (x5 + ((max (v3 - v5) (-(v3 - v5))) * (max (v3 - v5) (-(v3 - v5))))) h)))
theorem tX12_measure_56 {L : Nat} {xs : Nat → Int32} {l : Launch} {res : Int × Hp} (k28 : Nat → Int → Int → Int → Hp → Option (Int × Hp)) (k41 : Nat → Int → Int → Int → Int → Hp → Option (Int × Hp)) (hk28 : ∀ (x0 : Nat) (x1 : Int) (x2 : Int) (x3 : Int) (h : Hp), R32 x1 → R32 x2 → R32 x3 → k28 x0 x1 x2 x3 h = some res → J L xs l RX12 cX12_measure 8 false 3 (QI res) 0 0 28 [(0, vr x0), (1, vi x1), (2, vi x2), (3, vi x3)] [] h) (hk41 : ∀ (x0 : Nat) (x1 : Int) (x2 : Int) (x3 : Int) (x4 : Int) (h : Hp), R32 x1 → R32 x2 → R32 x3 → R32 x4 → k41 x0 x1 x2 x3 x4 h = some res → J L xs l RX12 cX12_measure 8 false 3 (QI res) 0 0 41 [(0, vr x0), (1, vi x1), (2, vi x2), (3, vi x3), (4, vi x4)] [] h) : ∀ (n : Nat) (x0 : Nat) (x1 : Int) (x2 : Int) (x3 : Int) (x4 : Int) (x5 : Int) (x6 : Int) (h : Hp), R32 x1 → R32 x2 → R32 x3 → R32 x4 → R32 x5 → R32 x6 → fX12_measure_56 k28 k41 n x0 x1 x2 x3 x4 x5 x6 h = some res → J L xs l RX12 cX12_measure 8 false 3 (QI res) 0 0 56 [(0, vr x0), (1, vi x1), (2, vi x2), (3, vi x3), (4, vi x4), (5, vi x5), (6, vi x6)] [] h := by
  intro n
  induction n with
  | zero => intro x0 x1 x2 x3 x4 x5 x6 h rx1 rx2 rx3 rx4 rx5 rx6 H; cases H
  | succ n ih =>
    intro x0 x1 x2 x3 x4 x5 x6 h rx1 rx2 rx3 rx4 rx5 rx6 H
    rw [fX12_measure_56] at H
    refine j_iload (pc' := 58) dX12_measure_56 rfl 6 rfl ?_
    refine j_iconst (pc' := 59) dX12_measure_58 rfl ?_
    refine j_icmp_ge (tgt := 134) (pc' := 62) dX12_measure_59 (by decide) rfl rx6 ⟨by decide, by decide⟩ (fun c1 => ?_) (fun c1 => ?_)
    · rw [if_pos c1] at H
      refine j_sub (lv' := [(0, vr x0), (1, vi x1), (2, vi x2), (3, vi x3), (4, vi x4), (5, vi x5)]) [0, 1, 2, 3, 4, 5] rfl ?_
      exact tX12_measure_134 _ _ hk28 hk41 x0 x1 x2 x3 x4 x5 h rx1 rx2 rx3 rx4 rx5 H
    · rw [if_neg c1] at H
      refine j_aload_n (i := 0) (pc' := 63) dX12_measure_62 rfl rfl 0 rfl ?_
      obtain ⟨v2, e2, H⟩ := bs H
      refine j_getR (pc' := 66) dX12_measure_63 rfl fl_X12_13 e2 (fun r2 => ?_)
      refine j_iconst (pc' := 67) dX12_measure_66 rfl ?_
      refine j_iload_n (i := 3) (pc' := 68) dX12_measure_67 rfl rfl 3 rfl ?_
      refine j_imul (pc' := 69) dX12_measure_68 rfl ?_
      refine j_iload (pc' := 71) dX12_measure_69 rfl 6 rfl ?_
      refine j_iadd (pc' := 72) dX12_measure_71 rfl ?_
      obtain ⟨v3, e3, H⟩ := bs H
      refine j_iald (pc' := 73) dX12_measure_72 rfl e3 (fun r3 => ?_)
      refine j_aload_n (i := 0) (pc' := 74) dX12_measure_73 rfl rfl 0 rfl ?_
      obtain ⟨v4, e4, H⟩ := bs H
      refine j_getR (pc' := 77) dX12_measure_74 rfl fl_X12_13 e4 (fun r4 => ?_)
      refine j_iconst (pc' := 78) dX12_measure_77 rfl ?_
      refine j_iload (pc' := 80) dX12_measure_78 rfl 4 rfl ?_
      refine j_imul (pc' := 81) dX12_measure_80 rfl ?_
      refine j_iload (pc' := 83) dX12_measure_81 rfl 6 rfl ?_
      refine j_iadd (pc' := 84) dX12_measure_83 rfl ?_
      obtain ⟨v5, e5, H⟩ := bs H
      refine j_iald (pc' := 85) dX12_measure_84 rfl e5 (fun r5 => ?_)
      refine j_isub (pc' := 86) dX12_measure_85 rfl ?_
      obtain ⟨u6, e6, H⟩ := bs H
      have r6 := c32_R e6
      refine j_mabs (pc' := 89) dX12_measure_86 rfl ml_X12_120 (by decide) (Nat.le_of_ble_eq_true rfl) r6 ?_
      obtain ⟨u7, e7, H⟩ := bs H
      have r7 := c32_R e7
      refine j_istore (lv' := [(0, vr x0), (1, vi x1), (2, vi x2), (3, vi x3), (4, vi x4), (5, vi x5), (6, vi x6), (7, vi (max (v3 - v5) (-(v3 - v5))))]) (pc' := 91) dX12_measure_89 rfl (by decide) [1, 2, 3, 4, 5, 6, 7, 0] rfl ?_
      refine j_iload_n (i := 1) (pc' := 92) dX12_measure_91 rfl rfl 1 rfl ?_
      refine j_if_ne (tgt := 103) (pc' := 95) dX12_measure_92 (by decide) rfl rx1 (fun c8 => ?_) (fun c8 => ?_)
      · rw [if_neg c8] at H
        refine j_iload_n (i := 1) (pc' := 104) dX12_measure_103 rfl rfl 1 rfl ?_
        refine j_iconst (pc' := 105) dX12_measure_104 rfl ?_
        refine j_icmp_ne (tgt := 118) (pc' := 108) dX12_measure_105 (by decide) rfl rx1 ⟨by decide, by decide⟩ (fun c9 => ?_) (fun c9 => ?_)
        · rw [if_neg c9] at H
          refine j_iload (pc' := 120) dX12_measure_118 rfl 5 rfl ?_
          refine j_iload (pc' := 122) dX12_measure_120 rfl 7 rfl ?_
          refine j_iload (pc' := 124) dX12_measure_122 rfl 7 rfl ?_
          refine j_imul (pc' := 125) dX12_measure_124 rfl ?_
          refine j_iadd (pc' := 126) dX12_measure_125 rfl ?_
          obtain ⟨u10, e10, H⟩ := bs H
          have r10 := c32_R e10
          refine j_sub (lv' := [(0, vr x0), (1, vi x1), (2, vi x2), (3, vi x3), (4, vi x4), (6, vi x6)]) [0, 1, 2, 3, 4, 6] rfl ?_
          exact tX12_measure_126 _ _ _ hk28 hk41 ih x0 x1 x2 x3 x4 x6 (x5 + ((max (v3 - v5) (-(v3 - v5))) * (max (v3 - v5) (-(v3 - v5))))) h rx1 rx2 rx3 rx4 rx6 r10 H
        · rw [if_pos c9] at H
          refine j_iload (pc' := 110) dX12_measure_108 rfl 5 rfl ?_
          refine j_iload (pc' := 112) dX12_measure_110 rfl 7 rfl ?_
          refine j_mmax (pc' := 115) dX12_measure_112 rfl ml_X12_125 (by decide) (Nat.le_of_ble_eq_true rfl) rx5 r7 ?_
          refine j_goto (tgt := 126) dX12_measure_115 (by decide) ?_
          refine j_sub (lv' := [(0, vr x0), (1, vi x1), (2, vi x2), (3, vi x3), (4, vi x4), (6, vi x6)]) [0, 1, 2, 3, 4, 6] rfl ?_
          exact tX12_measure_126 _ _ _ hk28 hk41 ih x0 x1 x2 x3 x4 x6 (max x5 (max (v3 - v5) (-(v3 - v5)))) h rx1 rx2 rx3 rx4 rx6 (R32_max rx5 r7) H
      · rw [if_pos c8] at H
        refine j_iload (pc' := 97) dX12_measure_95 rfl 5 rfl ?_
        refine j_iload (pc' := 99) dX12_measure_97 rfl 7 rfl ?_
        refine j_iadd (pc' := 100) dX12_measure_99 rfl ?_
        refine j_goto (tgt := 126) dX12_measure_100 (by decide) ?_
        obtain ⟨u11, e11, H⟩ := bs H
        have r11 := c32_R e11
        refine j_sub (lv' := [(0, vr x0), (1, vi x1), (2, vi x2), (3, vi x3), (4, vi x4), (6, vi x6)]) [0, 1, 2, 3, 4, 6] rfl ?_
        exact tX12_measure_126 _ _ _ hk28 hk41 ih x0 x1 x2 x3 x4 x6 (x5 + (max (v3 - v5) (-(v3 - v5)))) h rx1 rx2 rx3 rx4 rx6 r11 H
noncomputable def fX12_measure_41 (k28 : Nat → Int → Int → Int → Hp → Option (Int × Hp)) : Nat → Nat → Int → Int → Int → Int → Hp → Option (Int × Hp)
  | 0, _, _, _, _, _, _ => none
  | n + 1, x0, x1, x2, x3, x4, h => (cob h 11 x0).bind fun _ => (fX12_n x0 h).bind fun p2 => if p2.1 ≤ x4 then (fX12_measure_174 k28 x0 x1 x2 x3 p2.2) else (fX12_measure_56 k28 (fX12_measure_41 k28 n) FU x0 x1 x2 x3 x4 0 0 p2.2)
theorem tX12_measure_41 {L : Nat} {xs : Nat → Int32} {l : Launch} {res : Int × Hp} (k28 : Nat → Int → Int → Int → Hp → Option (Int × Hp)) (hk28 : ∀ (x0 : Nat) (x1 : Int) (x2 : Int) (x3 : Int) (h : Hp), R32 x1 → R32 x2 → R32 x3 → k28 x0 x1 x2 x3 h = some res → J L xs l RX12 cX12_measure 8 false 3 (QI res) 0 0 28 [(0, vr x0), (1, vi x1), (2, vi x2), (3, vi x3)] [] h) : ∀ (n : Nat) (x0 : Nat) (x1 : Int) (x2 : Int) (x3 : Int) (x4 : Int) (h : Hp), R32 x1 → R32 x2 → R32 x3 → R32 x4 → fX12_measure_41 k28 n x0 x1 x2 x3 x4 h = some res → J L xs l RX12 cX12_measure 8 false 3 (QI res) 0 0 41 [(0, vr x0), (1, vi x1), (2, vi x2), (3, vi x3), (4, vi x4)] [] h := by
  intro n
  induction n with
  | zero => intro x0 x1 x2 x3 x4 h rx1 rx2 rx3 rx4 H; cases H
  | succ n ih =>
    intro x0 x1 x2 x3 x4 h rx1 rx2 rx3 rx4 H
    rw [fX12_measure_41] at H
    refine j_iload (pc' := 43) dX12_measure_41 rfl 4 rfl ?_
    refine j_aload_n (i := 0) (pc' := 44) dX12_measure_43 rfl rfl 0 rfl ?_
    obtain ⟨u1, e1, H⟩ := bs H
    obtain ⟨p2, e2, H⟩ := bs H
    refine j_cVi (y := yX12_n) (dY := 1) (vs := []) (st := [vi x4]) (q := x0) (pc' := 47) dX12_measure_44 rfl ymX12_n yvX12_n ml_X12_90 (by decide) rfl (Nat.le_of_ble_eq_true rfl) (Nat.le_of_ble_eq_true rfl) e1 (tX12_n x0 h e2) (fun r2 z2 => ?_)
    refine j_icmp_ge (tgt := 174) (pc' := 50) dX12_measure_47 (by decide) rfl rx4 r2 (fun c3 => ?_) (fun c3 => ?_)
    · rw [if_pos c3] at H
      refine j_sub (lv' := [(0, vr x0), (1, vi x1), (2, vi x2), (3, vi x3)]) [0, 1, 2, 3] rfl ?_
      exact tX12_measure_174 _ hk28 x0 x1 x2 x3 p2.2 rx1 rx2 rx3 H
    · rw [if_neg c3] at H
      refine j_iconst (pc' := 51) dX12_measure_50 rfl ?_
      refine j_istore (lv' := [(0, vr x0), (1, vi x1), (2, vi x2), (3, vi x3), (4, vi x4), (5, vi 0)]) (pc' := 53) dX12_measure_51 rfl (by decide) [1, 2, 3, 4, 5, 0] rfl ?_
      refine j_iconst (pc' := 54) dX12_measure_53 rfl ?_
      refine j_istore (lv' := [(0, vr x0), (1, vi x1), (2, vi x2), (3, vi x3), (4, vi x4), (5, vi 0), (6, vi 0)]) (pc' := 56) dX12_measure_54 rfl (by decide) [1, 2, 3, 4, 5, 6, 0] rfl ?_
      exact tX12_measure_56 _ _ hk28 ih FU x0 x1 x2 x3 x4 0 0 p2.2 rx1 rx2 rx3 rx4 ⟨by decide, by decide⟩ ⟨by decide, by decide⟩ H
noncomputable def fX12_measure_28 : Nat → Nat → Int → Int → Int → Hp → Option (Int × Hp)
  | 0, _, _, _, _, _ => none
  | n + 1, x0, x1, x2, x3, h => (cob h 11 x0).bind fun _ => (fX12_n x0 h).bind fun p2 => if p2.1 ≤ x3 then (fX12_measure_180 x2 p2.2) else ((c32 (x3 + 1)).bind fun _ => fX12_measure_41 (fX12_measure_28 n) FU x0 x1 x2 x3 (x3 + 1) p2.2)
theorem tX12_measure_28 {L : Nat} {xs : Nat → Int32} {l : Launch} {res : Int × Hp} : ∀ (n : Nat) (x0 : Nat) (x1 : Int) (x2 : Int) (x3 : Int) (h : Hp), R32 x1 → R32 x2 → R32 x3 → fX12_measure_28 n x0 x1 x2 x3 h = some res → J L xs l RX12 cX12_measure 8 false 3 (QI res) 0 0 28 [(0, vr x0), (1, vi x1), (2, vi x2), (3, vi x3)] [] h := by
  intro n
  induction n with
  | zero => intro x0 x1 x2 x3 h rx1 rx2 rx3 H; cases H
  | succ n ih =>
    intro x0 x1 x2 x3 h rx1 rx2 rx3 H
    rw [fX12_measure_28] at H
    refine j_iload_n (i := 3) (pc' := 29) dX12_measure_28 rfl rfl 3 rfl ?_
    refine j_aload_n (i := 0) (pc' := 30) dX12_measure_29 rfl rfl 0 rfl ?_
    obtain ⟨u1, e1, H⟩ := bs H
    obtain ⟨p2, e2, H⟩ := bs H
    refine j_cVi (y := yX12_n) (dY := 1) (vs := []) (st := [vi x3]) (q := x0) (pc' := 33) dX12_measure_30 rfl ymX12_n yvX12_n ml_X12_90 (by decide) rfl (Nat.le_of_ble_eq_true rfl) (Nat.le_of_ble_eq_true rfl) e1 (tX12_n x0 h e2) (fun r2 z2 => ?_)
    refine j_icmp_ge (tgt := 180) (pc' := 36) dX12_measure_33 (by decide) rfl rx3 r2 (fun c3 => ?_) (fun c3 => ?_)
    · rw [if_pos c3] at H
      refine j_sub (lv' := [(2, vi x2)]) [2] rfl ?_
      exact tX12_measure_180   x2 p2.2 rx2 H
    · rw [if_neg c3] at H
      refine j_iload_n (i := 3) (pc' := 37) dX12_measure_36 rfl rfl 3 rfl ?_
      refine j_iconst (pc' := 38) dX12_measure_37 rfl ?_
      refine j_iadd (pc' := 39) dX12_measure_38 rfl ?_
      obtain ⟨u4, e4, H⟩ := bs H
      have r4 := c32_R e4
      refine j_istore (lv' := [(0, vr x0), (1, vi x1), (2, vi x2), (3, vi x3), (4, vi (x3 + 1))]) (pc' := 41) dX12_measure_39 rfl (by decide) [1, 2, 3, 4, 0] rfl ?_
      exact tX12_measure_41 _ ih FU x0 x1 x2 x3 (x3 + 1) p2.2 rx1 rx2 rx3 r4 H
noncomputable def fX12_measure (a0 : Nat) (a1 : Int) (h : Hp) : Option (Int × Hp) :=
  (putV h 11 a0 19 (vi 0)).bind fun h1 => if a1 < 0 then (fX12_measure_14 a0 h1) else (if a1 ≤ 2 then ((cob h1 11 a0).bind fun _ => (fX12_change a0 h1).bind fun h5 => fX12_measure_28 FU a0 a1 0 0 h5) else (fX12_measure_14 a0 h1))
theorem tX12_measure {L : Nat} {xs : Nat → Int32} {l : Launch} {res : Int × Hp} (a0 : Nat) (a1 : Int) (h : Hp) (ra1 : R32 a1) (H : fX12_measure a0 a1 h = some res) : J L xs l RX12 cX12_measure 8 false 3 (QI res) 0 0 0 (alv 0 [vr a0, vi a1]) [] h := by
  unfold fX12_measure at H
  show J L xs l RX12 cX12_measure 8 false 3 (QI res) 0 0 0 [(0, vr a0), (1, vi a1)] [] h
  refine j_aload_n (i := 0) (pc' := 1) dX12_measure_0 rfl rfl 0 rfl ?_
  refine j_iconst (pc' := 2) dX12_measure_1 rfl ?_
  obtain ⟨h1, e1, H⟩ := bs H
  refine j_putV (pc' := 5) dX12_measure_2 rfl fp_X12_77 tI ⟨by decide, by decide⟩ e1 ?_
  refine j_iload_n (i := 1) (pc' := 6) dX12_measure_5 rfl rfl 1 rfl ?_
  refine j_if_lt (tgt := 14) (pc' := 9) dX12_measure_6 (by decide) rfl ra1 (fun c2 => ?_) (fun c2 => ?_)
  · rw [if_pos c2] at H
    refine j_sub (lv' := [(0, vr a0)]) [0] rfl ?_
    exact tX12_measure_14   a0 h1  H
  · rw [if_neg c2] at H
    refine j_iload_n (i := 1) (pc' := 10) dX12_measure_9 rfl rfl 1 rfl ?_
    refine j_iconst (pc' := 11) dX12_measure_10 rfl ?_
    refine j_icmp_le (tgt := 20) (pc' := 14) dX12_measure_11 (by decide) rfl ra1 ⟨by decide, by decide⟩ (fun c3 => ?_) (fun c3 => ?_)
    · rw [if_pos c3] at H
      refine j_aload_n (i := 0) (pc' := 21) dX12_measure_20 rfl rfl 0 rfl ?_
      obtain ⟨u4, e4, H⟩ := bs H
      obtain ⟨h5, e5, H⟩ := bs H
      refine j_cVv (y := yX12_change) (dY := 2) (vs := []) (st := []) (q := a0) (pc' := 24) dX12_measure_21 rfl ymX12_change yvX12_change ml_X12_102 (by decide) rfl (Nat.le_of_ble_eq_true rfl) (Nat.le_of_ble_eq_true rfl) e4 (tX12_change a0 h1 e5) (fun z5 => ?_)
      refine j_iconst (pc' := 25) dX12_measure_24 rfl ?_
      refine j_istore_n (i := 2) (lv' := [(0, vr a0), (1, vi a1), (2, vi 0)]) (pc' := 26) dX12_measure_25 rfl rfl (by decide) [1, 2, 0] rfl ?_
      refine j_iconst (pc' := 27) dX12_measure_26 rfl ?_
      refine j_istore_n (i := 3) (lv' := [(0, vr a0), (1, vi a1), (2, vi 0), (3, vi 0)]) (pc' := 28) dX12_measure_27 rfl rfl (by decide) [1, 2, 3, 0] rfl ?_
      exact tX12_measure_28   FU a0 a1 0 0 h5 ra1 ⟨by decide, by decide⟩ ⟨by decide, by decide⟩ H
    · rw [if_neg c3] at H
      refine j_sub (lv' := [(0, vr a0)]) [0] rfl ?_
      exact tX12_measure_14   a0 h1  H
