-- X11_init
noncomputable def fX11_init_161  (h : Hp) : Option (Hp) :=
  some h
theorem tX11_init_161 {L : Nat} {xs : Nat → Int32} {l : Launch} {res : Hp}  (h : Hp)  (H : fX11_init_161  h = some res) : J L xs l RX11 cX11_init 2 true 4 (QV res) 0 0 161 [] [] h := by
  unfold fX11_init_161 at H
  obtain rfl := Option.some.inj H
  exact j_vret dX11_init_161 ⟨rfl, rfl⟩
noncomputable def fX11_init_137 : Nat → Nat → Int → Hp → Option (Hp)
  | 0, _, _, _ => none
  | n + 1, x0, x1, h => if 4 ≤ x1 then (fX11_init_161 h) else ((getR h 10 x0 4).bind fun v2 => (crf h x0).bind fun _ => (newO h (obj 5 [vi 0, vi 0, vr 0, vr 0])).bind fun p4 => (cob p4.2 5 p4.1).bind fun _ => (crf p4.2 p4.1).bind fun _ => (crf p4.2 v2).bind fun _ => (crf p4.2 x0).bind fun _ => (fX6_init p4.1 p4.2).bind fun h9 => (rst h9 5 v2 x1 p4.1).bind fun h10 => (c32 (x1 + 1)).bind fun _ => fX11_init_137 n x0 (x1 + 1) h10)
theorem tX11_init_137 {L : Nat} {xs : Nat → Int32} {l : Launch} {res : Hp} : ∀ (n : Nat) (x0 : Nat) (x1 : Int) (h : Hp), R32 x1 → fX11_init_137 n x0 x1 h = some res → J L xs l RX11 cX11_init 2 true 4 (QV res) (3 * n) (29 * n) 137 [(0, vr x0), (1, vi x1)] [] h := by
  intro n
  induction n with
  | zero => intro x0 x1 h rx1 H; cases H
  | succ n ih =>
    intro x0 x1 h rx1 H
    rw [fX11_init_137] at H
    refine j_rc (rc2 := (3 * n + 3)) (rs2 := (29 * n + 29)) (by omega) (by omega) ?_
    refine j_iload_n (i := 1) (pc' := 138) dX11_init_137 rfl rfl 1 rfl ?_
    refine j_iconst (pc' := 139) dX11_init_138 rfl ?_
    refine j_icmp_ge (tgt := 161) (pc' := 142) dX11_init_139 (by decide) rfl rx1 ⟨by decide, by decide⟩ (fun c1 => ?_) (fun c1 => ?_)
    · rw [if_pos c1] at H
      refine j_sub (lv' := []) [] rfl ?_
      refine j_rc (rc2 := 0) (rs2 := 0) (by omega) (by omega) ?_
      exact tX11_init_161   h  H
    · rw [if_neg c1] at H
      refine j_aload_n (i := 0) (pc' := 143) dX11_init_142 rfl rfl 0 rfl ?_
      obtain ⟨v2, e2, H⟩ := bs H
      refine j_getR (pc' := 146) dX11_init_143 rfl fl_X11_39 e2 (fun r2 => ?_)
      refine j_iload_n (i := 1) (pc' := 147) dX11_init_146 rfl rfl 1 rfl ?_
      obtain ⟨u3, e3, H⟩ := bs H
      obtain ⟨p4, e4, H⟩ := bs H
      refine j_newp (rc := (3 * n + 2)) (rs := (29 * n + 25)) (pc' := 150) dX11_init_147 rfl nl_X11_37 ⟨trivial, r2, trivial⟩ ⟨(crf_R e3), trivial, trivial⟩ e4 ?_
      refine j_dup (pc' := 151) dX11_init_150 rfl rfl ?_
      obtain ⟨u5, e5, H⟩ := bs H
      obtain ⟨u6, e6, H⟩ := bs H
      obtain ⟨u7, e7, H⟩ := bs H
      obtain ⟨u8, e8, H⟩ := bs H
      obtain ⟨h9, e9, H⟩ := bs H
      refine j_aN (y := yX6_init) (dY := 1) (vs := []) (st := [vr p4.1, vi x1, vr v2]) (q := p4.1) (mc := 2) (ms := 25) (rc := (3 * n)) (rs := (29 * n)) (pc' := 154) dX11_init_151 rfl ymX6_init rfl yiX6_init mn_X11_43 (by decide) rfl (Nat.le_of_ble_eq_true rfl) (Nat.le_of_ble_eq_true rfl) e5 ⟨(crf_R e6), trivial, (crf_R e7), trivial⟩ ⟨(crf_R e8), trivial, trivial⟩ (tX6_init p4.1 p4.2 e9) ?_
      obtain ⟨h10, e10, H⟩ := bs H
      refine j_rst ⟨_, rfl⟩ (pc' := 155) dX11_init_154 rfl e10 ?_
      obtain ⟨u11, e11, H⟩ := bs H
      have r11 := c32_R e11
      refine j_iinc (k0 := 1) (lv' := [(0, vr x0), (1, vi (x1 + 1))]) (pc' := 158) dX11_init_155 rfl rfl (by decide) [1, 0] rfl ?_
      refine j_goto (tgt := 137) dX11_init_158 (by decide) ?_
      exact ih x0 (x1 + 1) h10 r11 H
noncomputable def fX11_init (a0 : Nat) (h : Hp) : Option (Hp) :=
  (cob h 10 a0).bind fun _ => (crf h a0).bind fun _ => (newO h (obj 6 [vi 0, vr 0, vr 0, vr 0, vr 0, vr 0])).bind fun p3 => (cob p3.2 6 p3.1).bind fun _ => (crf p3.2 p3.1).bind fun _ => (crf p3.2 a0).bind fun _ => (fX7_init p3.1 p3.2).bind fun h7 => (crf h7 p3.1).bind fun _ => (putV h7 10 a0 0 (vr p3.1)).bind fun h9 => (crf h9 a0).bind fun _ => (newO h9 (obj 0 [vi 0, vi 0, vr 0])).bind fun p11 => (cob p11.2 0 p11.1).bind fun _ => (crf p11.2 p11.1).bind fun _ => (crf p11.2 a0).bind fun _ => (fX1_init p11.1 p11.2).bind fun h15 => (crf h15 p11.1).bind fun _ => (putV h15 10 a0 1 (vr p11.1)).bind fun h17 => (crf h17 a0).bind fun _ => (newO h17 (obj 8 [vi 0, vi 0, vr 0])).bind fun p19 => (cob p19.2 8 p19.1).bind fun _ => (crf p19.2 p19.1).bind fun _ => (crf p19.2 a0).bind fun _ => (fX9_init p19.1 p19.2).bind fun h23 => (crf h23 p19.1).bind fun _ => (putV h23 10 a0 2 (vr p19.1)).bind fun h25 => (crf h25 a0).bind fun _ => (newO h25 (obj 9 [vi 0, vi 0, vr 0, vr 0, vr 0, vr 0, vi 0])).bind fun p27 => (cob p27.2 9 p27.1).bind fun _ => (crf p27.2 p27.1).bind fun _ => (crf p27.2 a0).bind fun _ => (fX10_init p27.1 p27.2).bind fun h31 => (crf h31 p27.1).bind fun _ => (putV h31 10 a0 3 (vr p27.1)).bind fun h33 => (crf h33 a0).bind fun _ => (newO h33 (rar 5 4 (fun _ => 0))).bind fun p35 => (crf p35.2 p35.1).bind fun _ => (putV p35.2 10 a0 4 (vr p35.1)).bind fun h37 => (crf h37 a0).bind fun _ => (newO h37 (obj 5 [vi 0, vi 0, vr 0, vr 0])).bind fun p39 => (cob p39.2 5 p39.1).bind fun _ => (crf p39.2 p39.1).bind fun _ => (crf p39.2 a0).bind fun _ => (fX6_init p39.1 p39.2).bind fun h43 => (crf h43 p39.1).bind fun _ => (putV h43 10 a0 5 (vr p39.1)).bind fun h45 => (crf h45 a0).bind fun _ => (newO h45 (obj 7 [vr 0, vr 0, vr 0, vl 0, vi 0, vi 0, vi 0])).bind fun p47 => (cob p47.2 7 p47.1).bind fun _ => (crf p47.2 p47.1).bind fun _ => (crf p47.2 a0).bind fun _ => (fX8_init p47.1 p47.2).bind fun h51 => (crf h51 p47.1).bind fun _ => (putV h51 10 a0 6 (vr p47.1)).bind fun h53 => (crf h53 a0).bind fun _ => (newO h53 (obj 2 [vr 0, vr 0, vr 0, vr 0])).bind fun p55 => (cob p55.2 2 p55.1).bind fun _ => (crf p55.2 p55.1).bind fun _ => (crf p55.2 a0).bind fun _ => (fX3_init p55.1 p55.2).bind fun h59 => (crf h59 p55.1).bind fun _ => (putV h59 10 a0 7 (vr p55.1)).bind fun h61 => (crf h61 a0).bind fun _ => (newO h61 (obj 3 [vr 0, vr 0, vl 0])).bind fun p63 => (cob p63.2 3 p63.1).bind fun _ => (crf p63.2 p63.1).bind fun _ => (crf p63.2 a0).bind fun _ => (fX4_init p63.1 p63.2).bind fun h67 => (crf h67 p63.1).bind fun _ => (putV h67 10 a0 8 (vr p63.1)).bind fun h69 => (crf h69 a0).bind fun _ => (newO h69 (obj 1 [vr 0, vr 0])).bind fun p71 => (cob p71.2 1 p71.1).bind fun _ => (crf p71.2 p71.1).bind fun _ => (crf p71.2 a0).bind fun _ => (fX2_init p71.1 p71.2).bind fun h75 => (crf h75 p71.1).bind fun _ => (putV h75 10 a0 9 (vr p71.1)).bind fun h77 => (crf h77 a0).bind fun _ => (newO h77 (obj 4 [vr 0, vr 0])).bind fun p79 => (cob p79.2 4 p79.1).bind fun _ => (crf p79.2 p79.1).bind fun _ => (crf p79.2 a0).bind fun _ => (fX5_init p79.1 p79.2).bind fun h83 => (crf h83 p79.1).bind fun _ => (putV h83 10 a0 10 (vr p79.1)).bind fun h85 => (putV h85 10 a0 11 (vi 0)).bind fun h86 => (getR h86 10 a0 0).bind fun v87 => (cob h86 6 v87).bind fun _ => (fX7_restart v87 1 h86).bind fun h89 => fX11_init_137 5 a0 0 h89
theorem tX11_init {L : Nat} {xs : Nat → Int32} {l : Launch} {res : Hp} (a0 : Nat) (h : Hp)  (H : fX11_init a0 h = some res) : J L xs l RX11 cX11_init 2 true 4 (QV res) 63 2514 0 (alv 0 [vr a0]) [] h := by
  unfold fX11_init at H
  show J L xs l RX11 cX11_init 2 true 4 (QV res) 63 2514 0 [(0, vr a0)] [] h
  refine j_aload_n (i := 0) (pc' := 1) dX11_init_0 rfl rfl 0 rfl ?_
  obtain ⟨u1, e1, H⟩ := bs H
  refine j_objInit (pc' := 4) dX11_init_1 rfl ml_X11_1 oi_1 oi_2 (by decide) e1 (Nat.le_of_ble_eq_true rfl) ?_
  refine j_aload_n (i := 0) (pc' := 5) dX11_init_4 rfl rfl 0 rfl ?_
  obtain ⟨u2, e2, H⟩ := bs H
  obtain ⟨p3, e3, H⟩ := bs H
  refine j_newp (rc := 62) (rs := 2508) (pc' := 8) dX11_init_5 rfl nl_X11_7 ⟨(crf_R e2), trivial⟩ ⟨(crf_R e2), trivial⟩ e3 ?_
  refine j_dup (pc' := 9) dX11_init_8 rfl rfl ?_
  obtain ⟨u4, e4, H⟩ := bs H
  obtain ⟨u5, e5, H⟩ := bs H
  obtain ⟨u6, e6, H⟩ := bs H
  obtain ⟨h7, e7, H⟩ := bs H
  refine j_aN (y := yX7_init) (dY := 2) (vs := []) (st := [vr p3.1, vr a0]) (q := p3.1) (mc := 7) (ms := 509) (rc := 55) (rs := 1999) (pc' := 12) dX11_init_9 rfl ymX7_init rfl yiX7_init mn_X11_9 (by decide) rfl (Nat.le_of_ble_eq_true rfl) (Nat.le_of_ble_eq_true rfl) e4 ⟨(crf_R e5), (crf_R e6), trivial⟩ ⟨(crf_R e6), trivial⟩ (tX7_init p3.1 p3.2 e7) ?_
  obtain ⟨u8, e8, H⟩ := bs H
  obtain ⟨h9, e9, H⟩ := bs H
  refine j_putF (pc' := 15) dX11_init_12 rfl rfl fp_X11_10 tR (crf_R e8) e9 ?_
  refine j_aload_n (i := 0) (pc' := 16) dX11_init_15 rfl rfl 0 rfl ?_
  obtain ⟨u10, e10, H⟩ := bs H
  obtain ⟨p11, e11, H⟩ := bs H
  refine j_newp (rc := 54) (rs := 1996) (pc' := 19) dX11_init_16 rfl nl_X11_16 ⟨(crf_R e10), trivial⟩ ⟨(crf_R e10), trivial⟩ e11 ?_
  refine j_dup (pc' := 20) dX11_init_19 rfl rfl ?_
  obtain ⟨u12, e12, H⟩ := bs H
  obtain ⟨u13, e13, H⟩ := bs H
  obtain ⟨u14, e14, H⟩ := bs H
  obtain ⟨h15, e15, H⟩ := bs H
  refine j_aN (y := yX1_init) (dY := 1) (vs := []) (st := [vr p11.1, vr a0]) (q := p11.1) (mc := 1) (ms := 20) (rc := 53) (rs := 1976) (pc' := 23) dX11_init_20 rfl ymX1_init rfl yiX1_init mn_X11_18 (by decide) rfl (Nat.le_of_ble_eq_true rfl) (Nat.le_of_ble_eq_true rfl) e12 ⟨(crf_R e13), (crf_R e14), trivial⟩ ⟨(crf_R e14), trivial⟩ (tX1_init p11.1 p11.2 e15) ?_
  obtain ⟨u16, e16, H⟩ := bs H
  obtain ⟨h17, e17, H⟩ := bs H
  refine j_putF (pc' := 26) dX11_init_23 rfl rfl fp_X11_19 tR (crf_R e16) e17 ?_
  refine j_aload_n (i := 0) (pc' := 27) dX11_init_26 rfl rfl 0 rfl ?_
  obtain ⟨u18, e18, H⟩ := bs H
  obtain ⟨p19, e19, H⟩ := bs H
  refine j_newp (rc := 52) (rs := 1973) (pc' := 30) dX11_init_27 rfl nl_X11_23 ⟨(crf_R e18), trivial⟩ ⟨(crf_R e18), trivial⟩ e19 ?_
  refine j_dup (pc' := 31) dX11_init_30 rfl rfl ?_
  obtain ⟨u20, e20, H⟩ := bs H
  obtain ⟨u21, e21, H⟩ := bs H
  obtain ⟨u22, e22, H⟩ := bs H
  obtain ⟨h23, e23, H⟩ := bs H
  refine j_aN (y := yX9_init) (dY := 1) (vs := []) (st := [vr p19.1, vr a0]) (q := p19.1) (mc := 1) (ms := 8) (rc := 51) (rs := 1965) (pc' := 34) dX11_init_31 rfl ymX9_init rfl yiX9_init mn_X11_25 (by decide) rfl (Nat.le_of_ble_eq_true rfl) (Nat.le_of_ble_eq_true rfl) e20 ⟨(crf_R e21), (crf_R e22), trivial⟩ ⟨(crf_R e22), trivial⟩ (tX9_init p19.1 p19.2 e23) ?_
  obtain ⟨u24, e24, H⟩ := bs H
  obtain ⟨h25, e25, H⟩ := bs H
  refine j_putF (pc' := 37) dX11_init_34 rfl rfl fp_X11_26 tR (crf_R e24) e25 ?_
  refine j_aload_n (i := 0) (pc' := 38) dX11_init_37 rfl rfl 0 rfl ?_
  obtain ⟨u26, e26, H⟩ := bs H
  obtain ⟨p27, e27, H⟩ := bs H
  refine j_newp (rc := 50) (rs := 1958) (pc' := 41) dX11_init_38 rfl nl_X11_30 ⟨(crf_R e26), trivial⟩ ⟨(crf_R e26), trivial⟩ e27 ?_
  refine j_dup (pc' := 42) dX11_init_41 rfl rfl ?_
  obtain ⟨u28, e28, H⟩ := bs H
  obtain ⟨u29, e29, H⟩ := bs H
  obtain ⟨u30, e30, H⟩ := bs H
  obtain ⟨h31, e31, H⟩ := bs H
  refine j_aN (y := yX10_init) (dY := 1) (vs := []) (st := [vr p27.1, vr a0]) (q := p27.1) (mc := 4) (ms := 180) (rc := 46) (rs := 1778) (pc' := 45) dX11_init_42 rfl ymX10_init rfl yiX10_init mn_X11_32 (by decide) rfl (Nat.le_of_ble_eq_true rfl) (Nat.le_of_ble_eq_true rfl) e28 ⟨(crf_R e29), (crf_R e30), trivial⟩ ⟨(crf_R e30), trivial⟩ (tX10_init p27.1 p27.2 e31) ?_
  obtain ⟨u32, e32, H⟩ := bs H
  obtain ⟨h33, e33, H⟩ := bs H
  refine j_putF (pc' := 48) dX11_init_45 rfl rfl fp_X11_33 tR (crf_R e32) e33 ?_
  refine j_aload_n (i := 0) (pc' := 49) dX11_init_48 rfl rfl 0 rfl ?_
  refine j_iconst (pc' := 50) dX11_init_49 rfl ?_
  obtain ⟨u34, e34, H⟩ := bs H
  obtain ⟨p35, e35, H⟩ := bs H
  refine j_newRp (N := 4) (rc := 45) (rs := 1774) (pc' := 53) rfl (by decide) dX11_init_50 rfl ck_X11_37 (Or.inl rfl) ⟨(crf_R e34), trivial⟩ ⟨(crf_R e34), trivial⟩ e35 ?_
  obtain ⟨u36, e36, H⟩ := bs H
  obtain ⟨h37, e37, H⟩ := bs H
  refine j_putF (pc' := 56) dX11_init_53 rfl rfl fp_X11_39 tR (crf_R e36) e37 ?_
  refine j_aload_n (i := 0) (pc' := 57) dX11_init_56 rfl rfl 0 rfl ?_
  obtain ⟨u38, e38, H⟩ := bs H
  obtain ⟨p39, e39, H⟩ := bs H
  refine j_newp (rc := 44) (rs := 1770) (pc' := 60) dX11_init_57 rfl nl_X11_37 ⟨(crf_R e38), trivial⟩ ⟨(crf_R e38), trivial⟩ e39 ?_
  refine j_dup (pc' := 61) dX11_init_60 rfl rfl ?_
  obtain ⟨u40, e40, H⟩ := bs H
  obtain ⟨u41, e41, H⟩ := bs H
  obtain ⟨u42, e42, H⟩ := bs H
  obtain ⟨h43, e43, H⟩ := bs H
  refine j_aN (y := yX6_init) (dY := 1) (vs := []) (st := [vr p39.1, vr a0]) (q := p39.1) (mc := 2) (ms := 25) (rc := 42) (rs := 1745) (pc' := 64) dX11_init_61 rfl ymX6_init rfl yiX6_init mn_X11_43 (by decide) rfl (Nat.le_of_ble_eq_true rfl) (Nat.le_of_ble_eq_true rfl) e40 ⟨(crf_R e41), (crf_R e42), trivial⟩ ⟨(crf_R e42), trivial⟩ (tX6_init p39.1 p39.2 e43) ?_
  obtain ⟨u44, e44, H⟩ := bs H
  obtain ⟨h45, e45, H⟩ := bs H
  refine j_putF (pc' := 67) dX11_init_64 rfl rfl fp_X11_44 tR (crf_R e44) e45 ?_
  refine j_aload_n (i := 0) (pc' := 68) dX11_init_67 rfl rfl 0 rfl ?_
  obtain ⟨u46, e46, H⟩ := bs H
  obtain ⟨p47, e47, H⟩ := bs H
  refine j_newp (rc := 41) (rs := 1738) (pc' := 71) dX11_init_68 rfl nl_X11_48 ⟨(crf_R e46), trivial⟩ ⟨(crf_R e46), trivial⟩ e47 ?_
  refine j_dup (pc' := 72) dX11_init_71 rfl rfl ?_
  obtain ⟨u48, e48, H⟩ := bs H
  obtain ⟨u49, e49, H⟩ := bs H
  obtain ⟨u50, e50, H⟩ := bs H
  obtain ⟨h51, e51, H⟩ := bs H
  refine j_aN (y := yX8_init) (dY := 1) (vs := []) (st := [vr p47.1, vr a0]) (q := p47.1) (mc := 3) (ms := 536) (rc := 38) (rs := 1202) (pc' := 75) dX11_init_72 rfl ymX8_init rfl yiX8_init mn_X11_50 (by decide) rfl (Nat.le_of_ble_eq_true rfl) (Nat.le_of_ble_eq_true rfl) e48 ⟨(crf_R e49), (crf_R e50), trivial⟩ ⟨(crf_R e50), trivial⟩ (tX8_init p47.1 p47.2 e51) ?_
  obtain ⟨u52, e52, H⟩ := bs H
  obtain ⟨h53, e53, H⟩ := bs H
  refine j_putF (pc' := 78) dX11_init_75 rfl rfl fp_X11_51 tR (crf_R e52) e53 ?_
  refine j_aload_n (i := 0) (pc' := 79) dX11_init_78 rfl rfl 0 rfl ?_
  obtain ⟨u54, e54, H⟩ := bs H
  obtain ⟨p55, e55, H⟩ := bs H
  refine j_newp (rc := 37) (rs := 1198) (pc' := 82) dX11_init_79 rfl nl_X11_55 ⟨(crf_R e54), trivial⟩ ⟨(crf_R e54), trivial⟩ e55 ?_
  refine j_dup (pc' := 83) dX11_init_82 rfl rfl ?_
  obtain ⟨u56, e56, H⟩ := bs H
  obtain ⟨u57, e57, H⟩ := bs H
  obtain ⟨u58, e58, H⟩ := bs H
  obtain ⟨h59, e59, H⟩ := bs H
  refine j_aN (y := yX3_init) (dY := 3) (vs := []) (st := [vr p55.1, vr a0]) (q := p55.1) (mc := 13) (ms := 700) (rc := 24) (rs := 498) (pc' := 86) dX11_init_83 rfl ymX3_init rfl yiX3_init mn_X11_57 (by decide) rfl (Nat.le_of_ble_eq_true rfl) (Nat.le_of_ble_eq_true rfl) e56 ⟨(crf_R e57), (crf_R e58), trivial⟩ ⟨(crf_R e58), trivial⟩ (tX3_init p55.1 p55.2 e59) ?_
  obtain ⟨u60, e60, H⟩ := bs H
  obtain ⟨h61, e61, H⟩ := bs H
  refine j_putF (pc' := 89) dX11_init_86 rfl rfl fp_X11_58 tR (crf_R e60) e61 ?_
  refine j_aload_n (i := 0) (pc' := 90) dX11_init_89 rfl rfl 0 rfl ?_
  obtain ⟨u62, e62, H⟩ := bs H
  obtain ⟨p63, e63, H⟩ := bs H
  refine j_newp (rc := 23) (rs := 495) (pc' := 93) dX11_init_90 rfl nl_X11_62 ⟨(crf_R e62), trivial⟩ ⟨(crf_R e62), trivial⟩ e63 ?_
  refine j_dup (pc' := 94) dX11_init_93 rfl rfl ?_
  obtain ⟨u64, e64, H⟩ := bs H
  obtain ⟨u65, e65, H⟩ := bs H
  obtain ⟨u66, e66, H⟩ := bs H
  obtain ⟨h67, e67, H⟩ := bs H
  refine j_aN (y := yX4_init) (dY := 1) (vs := []) (st := [vr p63.1, vr a0]) (q := p63.1) (mc := 2) (ms := 24) (rc := 21) (rs := 471) (pc' := 97) dX11_init_94 rfl ymX4_init rfl yiX4_init mn_X11_64 (by decide) rfl (Nat.le_of_ble_eq_true rfl) (Nat.le_of_ble_eq_true rfl) e64 ⟨(crf_R e65), (crf_R e66), trivial⟩ ⟨(crf_R e66), trivial⟩ (tX4_init p63.1 p63.2 e67) ?_
  obtain ⟨u68, e68, H⟩ := bs H
  obtain ⟨h69, e69, H⟩ := bs H
  refine j_putF (pc' := 100) dX11_init_97 rfl rfl fp_X11_65 tR (crf_R e68) e69 ?_
  refine j_aload_n (i := 0) (pc' := 101) dX11_init_100 rfl rfl 0 rfl ?_
  obtain ⟨u70, e70, H⟩ := bs H
  obtain ⟨p71, e71, H⟩ := bs H
  refine j_newp (rc := 20) (rs := 469) (pc' := 104) dX11_init_101 rfl nl_X11_69 ⟨(crf_R e70), trivial⟩ ⟨(crf_R e70), trivial⟩ e71 ?_
  refine j_dup (pc' := 105) dX11_init_104 rfl rfl ?_
  obtain ⟨u72, e72, H⟩ := bs H
  obtain ⟨u73, e73, H⟩ := bs H
  obtain ⟨u74, e74, H⟩ := bs H
  obtain ⟨h75, e75, H⟩ := bs H
  refine j_aN (y := yX2_init) (dY := 1) (vs := []) (st := [vr p71.1, vr a0]) (q := p71.1) (mc := 2) (ms := 140) (rc := 18) (rs := 329) (pc' := 108) dX11_init_105 rfl ymX2_init rfl yiX2_init mn_X11_71 (by decide) rfl (Nat.le_of_ble_eq_true rfl) (Nat.le_of_ble_eq_true rfl) e72 ⟨(crf_R e73), (crf_R e74), trivial⟩ ⟨(crf_R e74), trivial⟩ (tX2_init p71.1 p71.2 e75) ?_
  obtain ⟨u76, e76, H⟩ := bs H
  obtain ⟨h77, e77, H⟩ := bs H
  refine j_putF (pc' := 111) dX11_init_108 rfl rfl fp_X11_72 tR (crf_R e76) e77 ?_
  refine j_aload_n (i := 0) (pc' := 112) dX11_init_111 rfl rfl 0 rfl ?_
  obtain ⟨u78, e78, H⟩ := bs H
  obtain ⟨p79, e79, H⟩ := bs H
  refine j_newp (rc := 17) (rs := 327) (pc' := 115) dX11_init_112 rfl nl_X11_76 ⟨(crf_R e78), trivial⟩ ⟨(crf_R e78), trivial⟩ e79 ?_
  refine j_dup (pc' := 116) dX11_init_115 rfl rfl ?_
  obtain ⟨u80, e80, H⟩ := bs H
  obtain ⟨u81, e81, H⟩ := bs H
  obtain ⟨u82, e82, H⟩ := bs H
  obtain ⟨h83, e83, H⟩ := bs H
  refine j_aI (y := yX5_init) (dY := 1) (vs := []) (st := [vr p79.1, vr a0]) (q := p79.1) (mc := 2) (ms := 182) (rc := 15) (rs := 145) (pc' := 119) dX11_init_116 rfl ymX5_init rfl yiX5_init ml_X11_78 (by decide) rfl (Nat.le_of_ble_eq_true rfl) (Nat.le_of_ble_eq_true rfl) e80 ⟨(crf_R e81), (crf_R e82), trivial⟩ ⟨(crf_R e82), trivial⟩ (tX5_init p79.1 p79.2 e83) ?_
  obtain ⟨u84, e84, H⟩ := bs H
  obtain ⟨h85, e85, H⟩ := bs H
  refine j_putF (pc' := 122) dX11_init_119 rfl rfl fp_X11_79 tR (crf_R e84) e85 ?_
  refine j_aload_n (i := 0) (pc' := 123) dX11_init_122 rfl rfl 0 rfl ?_
  refine j_iconst (pc' := 124) dX11_init_123 rfl ?_
  obtain ⟨h86, e86, H⟩ := bs H
  refine j_putV (pc' := 127) dX11_init_124 rfl fp_X11_83 tI ⟨by decide, by decide⟩ e86 ?_
  refine j_aload_n (i := 0) (pc' := 128) dX11_init_127 rfl rfl 0 rfl ?_
  obtain ⟨v87, e87, H⟩ := bs H
  refine j_getR (pc' := 131) dX11_init_128 rfl fl_X11_10 e87 (fun r87 => ?_)
  refine j_iconst (pc' := 132) dX11_init_131 rfl ?_
  obtain ⟨u88, e88, H⟩ := bs H
  obtain ⟨h89, e89, H⟩ := bs H
  refine j_cVv (y := yX7_restart) (dY := 3) (vs := [vi 1]) (st := []) (q := v87) (pc' := 135) dX11_init_132 rfl ymX7_restart yvX7_restart ml_X11_87 (by decide) rfl (Nat.le_of_ble_eq_true rfl) (Nat.le_of_ble_eq_true rfl) e88 (tX7_restart v87 1 h86 ⟨by decide, by decide⟩ e89) (fun z89 => ?_)
  refine j_iconst (pc' := 136) dX11_init_135 rfl ?_
  refine j_istore_n (i := 1) (lv' := [(0, vr a0), (1, vi 0)]) (pc' := 137) dX11_init_136 rfl rfl (by decide) [1, 0] rfl ?_
  exact tX11_init_137   5 a0 0 h89 ⟨by decide, by decide⟩ H
-- X11_deny
noncomputable def fX11_deny (a0 : Nat) (a1 : Int) (h : Hp) : Option (Int × Hp) :=
  (putV h 10 a0 11 (vi a1)).bind fun h1 => some (0, h1)
theorem tX11_deny {L : Nat} {xs : Nat → Int32} {l : Launch} {res : Int × Hp} (a0 : Nat) (a1 : Int) (h : Hp) (ra1 : R32 a1) (H : fX11_deny a0 a1 h = some res) : J L xs l RX11 cX11_deny 2 false 1 (QB res) 0 0 0 (alv 0 [vr a0, vi a1]) [] h := by
  unfold fX11_deny at H
  show J L xs l RX11 cX11_deny 2 false 1 (QB res) 0 0 0 [(0, vr a0), (1, vi a1)] [] h
  refine j_aload_n (i := 0) (pc' := 1) dX11_deny_0 rfl rfl 0 rfl ?_
  refine j_iload_n (i := 1) (pc' := 2) dX11_deny_1 rfl rfl 1 rfl ?_
  obtain ⟨h1, e1, H⟩ := bs H
  refine j_putV (pc' := 5) dX11_deny_2 rfl fp_X11_83 tI ra1 e1 ?_
  refine j_iconst (pc' := 6) dX11_deny_5 rfl ?_
  obtain rfl := Option.some.inj H
  exact j_iret dX11_deny_6 ⟨by decide, by decide⟩ ⟨rfl, rfl, Or.inl rfl⟩
-- X11_change
noncomputable def fX11_change (a0 : Nat) (h : Hp) : Option (Hp) :=
  (putV h 10 a0 11 (vi 0)).bind fun h1 => (getR h1 10 a0 1).bind fun v2 => (getR h1 10 a0 0).bind fun v3 => (cob h1 0 v2).bind fun _ => (crf h1 a0).bind fun _ => (fX1_remember v2 v3 h1).bind fun h6 => some h6
theorem tX11_change {L : Nat} {xs : Nat → Int32} {l : Launch} {res : Hp} (a0 : Nat) (h : Hp)  (H : fX11_change a0 h = some res) : J L xs l RX11 cX11_change 1 false 4 (QV res) 8 515 0 (alv 0 [vr a0]) [] h := by
  unfold fX11_change at H
  show J L xs l RX11 cX11_change 1 false 4 (QV res) 8 515 0 [(0, vr a0)] [] h
  refine j_aload_n (i := 0) (pc' := 1) dX11_change_0 rfl rfl 0 rfl ?_
  refine j_iconst (pc' := 2) dX11_change_1 rfl ?_
  obtain ⟨h1, e1, H⟩ := bs H
  refine j_putV (pc' := 5) dX11_change_2 rfl fp_X11_83 tI ⟨by decide, by decide⟩ e1 ?_
  refine j_aload_n (i := 0) (pc' := 6) dX11_change_5 rfl rfl 0 rfl ?_
  obtain ⟨v2, e2, H⟩ := bs H
  refine j_getR (pc' := 9) dX11_change_6 rfl fl_X11_19 e2 (fun r2 => ?_)
  refine j_aload_n (i := 0) (pc' := 10) dX11_change_9 rfl rfl 0 rfl ?_
  obtain ⟨v3, e3, H⟩ := bs H
  refine j_getR (pc' := 13) dX11_change_10 rfl fl_X11_10 e3 (fun r3 => ?_)
  obtain ⟨u4, e4, H⟩ := bs H
  obtain ⟨u5, e5, H⟩ := bs H
  obtain ⟨h6, e6, H⟩ := bs H
  refine j_aVv (y := yX1_remember) (dY := 3) (vs := [vr v3]) (st := []) (q := v2) (mc := 8) (ms := 515) (rc := 0) (rs := 0) (pc' := 16) dX11_change_13 rfl ymX1_remember yvX1_remember ml_X11_280 (by decide) rfl (Nat.le_of_ble_eq_true rfl) (Nat.le_of_ble_eq_true rfl) e4 trivial ⟨(crf_R e5), trivial⟩ (tX1_remember v2 v3 h1 e6) ?_
  obtain rfl := Option.some.inj H
  exact j_vret dX11_change_16 ⟨rfl, rfl⟩
-- X11_things
noncomputable def fX11_things_11 (x0 : Nat) (h : Hp) : Option (Int × Hp) :=
  (cob h 10 x0).bind fun _ => (fX11_deny x0 1 h).bind fun p2 => (cbo p2.1).bind fun _ => some (p2.1, p2.2)
theorem tX11_things_11 {L : Nat} {xs : Nat → Int32} {l : Launch} {res : Int × Hp} (x0 : Nat) (h : Hp)  (H : fX11_things_11 x0 h = some res) : J L xs l RX11 cX11_things 2 false 5 (QB res) 0 0 11 [(0, vr x0)] [] h := by
  unfold fX11_things_11 at H
  refine j_aload_n (i := 0) (pc' := 12) dX11_things_11 rfl rfl 0 rfl ?_
  refine j_iconst (pc' := 13) dX11_things_12 rfl ?_
  obtain ⟨u1, e1, H⟩ := bs H
  obtain ⟨p2, e2, H⟩ := bs H
  refine j_cVb (y := yX11_deny) (dY := 1) (vs := [vi 1]) (st := []) (q := x0) (pc' := 16) dX11_things_13 rfl ymX11_deny yvX11_deny ml_X11_91 (by decide) rfl (Nat.le_of_ble_eq_true rfl) (Nat.le_of_ble_eq_true rfl) e1 (tX11_deny x0 1 h ⟨by decide, by decide⟩ e2) (fun r2 b2 z2 => ?_)
  obtain ⟨u3, e3, H⟩ := bs H
  obtain rfl := Option.some.inj H
  exact j_iret dX11_things_16 r2 ⟨rfl, rfl, cbo_R e3⟩
noncomputable def fX11_things (a0 : Nat) (a1 : Int) (h : Hp) : Option (Int × Hp) :=
  if a1 < 1 then (fX11_things_11 a0 h) else (if a1 ≤ 12 then ((cob h 10 a0).bind fun _ => (crf h a0).bind fun _ => (fX11_change a0 h).bind fun h5 => (getR h5 10 a0 0).bind fun v6 => (cob h5 6 v6).bind fun _ => (fX7_restart v6 a1 h5).bind fun h8 => (getR h8 10 a0 3).bind fun v9 => (cob h8 9 v9).bind fun _ => (fX10_drop v9 h8).bind fun h11 => some (1, h11)) else (fX11_things_11 a0 h))
theorem tX11_things {L : Nat} {xs : Nat → Int32} {l : Launch} {res : Int × Hp} (a0 : Nat) (a1 : Int) (h : Hp) (ra1 : R32 a1) (H : fX11_things a0 a1 h = some res) : J L xs l RX11 cX11_things 2 false 5 (QB res) 8 515 0 (alv 0 [vr a0, vi a1]) [] h := by
  unfold fX11_things at H
  show J L xs l RX11 cX11_things 2 false 5 (QB res) 8 515 0 [(0, vr a0), (1, vi a1)] [] h
  refine j_iload_n (i := 1) (pc' := 1) dX11_things_0 rfl rfl 1 rfl ?_
  refine j_iconst (pc' := 2) dX11_things_1 rfl ?_
  refine j_icmp_lt (tgt := 11) (pc' := 5) dX11_things_2 (by decide) rfl ra1 ⟨by decide, by decide⟩ (fun c1 => ?_) (fun c1 => ?_)
  · rw [if_pos c1] at H
    refine j_sub (lv' := [(0, vr a0)]) [0] rfl ?_
    refine j_rc (rc2 := 0) (rs2 := 0) (by omega) (by omega) ?_
    exact tX11_things_11   a0 h  H
  · rw [if_neg c1] at H
    refine j_iload_n (i := 1) (pc' := 6) dX11_things_5 rfl rfl 1 rfl ?_
    refine j_bipush (pc' := 8) dX11_things_6 rfl (by decide +kernel) ?_
    refine j_icmp_le (tgt := 17) (pc' := 11) dX11_things_8 (by decide) rfl ra1 ⟨by decide, by decide⟩ (fun c2 => ?_) (fun c2 => ?_)
    · rw [if_pos c2] at H
      refine j_aload_n (i := 0) (pc' := 18) dX11_things_17 rfl rfl 0 rfl ?_
      obtain ⟨u3, e3, H⟩ := bs H
      obtain ⟨u4, e4, H⟩ := bs H
      obtain ⟨h5, e5, H⟩ := bs H
      refine j_aVv (y := yX11_change) (dY := 4) (vs := []) (st := []) (q := a0) (mc := 8) (ms := 515) (rc := 0) (rs := 0) (pc' := 21) dX11_things_18 rfl ymX11_change yvX11_change ml_X11_95 (by decide) rfl (Nat.le_of_ble_eq_true rfl) (Nat.le_of_ble_eq_true rfl) e3 trivial ⟨(crf_R e4), trivial, trivial⟩ (tX11_change a0 h e5) ?_
      refine j_aload_n (i := 0) (pc' := 22) dX11_things_21 rfl rfl 0 rfl ?_
      obtain ⟨v6, e6, H⟩ := bs H
      refine j_getR (pc' := 25) dX11_things_22 rfl fl_X11_10 e6 (fun r6 => ?_)
      refine j_iload_n (i := 1) (pc' := 26) dX11_things_25 rfl rfl 1 rfl ?_
      obtain ⟨u7, e7, H⟩ := bs H
      obtain ⟨h8, e8, H⟩ := bs H
      refine j_cVv (y := yX7_restart) (dY := 3) (vs := [vi a1]) (st := []) (q := v6) (pc' := 29) dX11_things_26 rfl ymX7_restart yvX7_restart ml_X11_87 (by decide) rfl (Nat.le_of_ble_eq_true rfl) (Nat.le_of_ble_eq_true rfl) e7 (tX7_restart v6 a1 h5 ra1 e8) (fun z8 => ?_)
      refine j_aload_n (i := 0) (pc' := 30) dX11_things_29 rfl rfl 0 rfl ?_
      obtain ⟨v9, e9, H⟩ := bs H
      refine j_getR (pc' := 33) dX11_things_30 rfl fl_X11_33 e9 (fun r9 => ?_)
      obtain ⟨u10, e10, H⟩ := bs H
      obtain ⟨h11, e11, H⟩ := bs H
      refine j_cVv (y := yX10_drop) (dY := 1) (vs := []) (st := []) (q := v9) (pc' := 36) dX11_things_33 rfl ymX10_drop yvX10_drop ml_X11_98 (by decide) rfl (Nat.le_of_ble_eq_true rfl) (Nat.le_of_ble_eq_true rfl) e10 (tX10_drop v9 h8 e11) (fun z11 => ?_)
      refine j_iconst (pc' := 37) dX11_things_36 rfl ?_
      obtain rfl := Option.some.inj H
      exact j_iret dX11_things_37 ⟨by decide, by decide⟩ ⟨rfl, rfl, Or.inr rfl⟩
    · rw [if_neg c2] at H
      refine j_sub (lv' := [(0, vr a0)]) [0] rfl ?_
      refine j_rc (rc2 := 0) (rs2 := 0) (by omega) (by omega) ?_
      exact tX11_things_11   a0 h  H
-- X11_isThing
noncomputable def fX11_isThing_20 (s0 : Int) (h : Hp) : Option (Int × Hp) :=
  (cbo s0).bind fun _ => some (s0, h)
theorem tX11_isThing_20 {L : Nat} {xs : Nat → Int32} {l : Launch} {res : Int × Hp} (s0 : Int) (h : Hp) (rs0 : R32 s0) (H : fX11_isThing_20 s0 h = some res) : J L xs l RX11 cX11_isThing 2 false 1 (QB res) 0 0 20 [] [vi s0] h := by
  unfold fX11_isThing_20 at H
  obtain ⟨u1, e1, H⟩ := bs H
  obtain rfl := Option.some.inj H
  exact j_iret dX11_isThing_20 rs0 ⟨rfl, rfl, cbo_R e1⟩
noncomputable def fX11_isThing_19  (h : Hp) : Option (Int × Hp) :=
  fX11_isThing_20 0 h
theorem tX11_isThing_19 {L : Nat} {xs : Nat → Int32} {l : Launch} {res : Int × Hp}  (h : Hp)  (H : fX11_isThing_19  h = some res) : J L xs l RX11 cX11_isThing 2 false 1 (QB res) 0 0 19 [] [] h := by
  unfold fX11_isThing_19 at H
  refine j_iconst (pc' := 20) dX11_isThing_19 rfl ?_
  exact tX11_isThing_20   0 h ⟨by decide, by decide⟩ H
noncomputable def fX11_isThing (a0 : Nat) (a1 : Int) (h : Hp) : Option (Int × Hp) :=
  if a1 < 0 then (fX11_isThing_19 h) else ((getR h 10 a0 0).bind fun v2 => (getI h 6 v2 0).bind fun v3 => if v3 ≤ a1 then (fX11_isThing_19 h) else (fX11_isThing_20 1 h))
theorem tX11_isThing {L : Nat} {xs : Nat → Int32} {l : Launch} {res : Int × Hp} (a0 : Nat) (a1 : Int) (h : Hp) (ra1 : R32 a1) (H : fX11_isThing a0 a1 h = some res) : J L xs l RX11 cX11_isThing 2 false 1 (QB res) 0 0 0 (alv 0 [vr a0, vi a1]) [] h := by
  unfold fX11_isThing at H
  show J L xs l RX11 cX11_isThing 2 false 1 (QB res) 0 0 0 [(0, vr a0), (1, vi a1)] [] h
  refine j_iload_n (i := 1) (pc' := 1) dX11_isThing_0 rfl rfl 1 rfl ?_
  refine j_if_lt (tgt := 19) (pc' := 4) dX11_isThing_1 (by decide) rfl ra1 (fun c1 => ?_) (fun c1 => ?_)
  · rw [if_pos c1] at H
    refine j_sub (lv' := []) [] rfl ?_
    exact tX11_isThing_19   h  H
  · rw [if_neg c1] at H
    refine j_iload_n (i := 1) (pc' := 5) dX11_isThing_4 rfl rfl 1 rfl ?_
    refine j_aload_n (i := 0) (pc' := 6) dX11_isThing_5 rfl rfl 0 rfl ?_
    obtain ⟨v2, e2, H⟩ := bs H
    refine j_getR (pc' := 9) dX11_isThing_6 rfl fl_X11_10 e2 (fun r2 => ?_)
    obtain ⟨v3, e3, H⟩ := bs H
    refine j_getI (pc' := 12) dX11_isThing_9 rfl fl_X11_147 e3 (fun r3 => ?_)
    refine j_icmp_ge (tgt := 19) (pc' := 15) dX11_isThing_12 (by decide) rfl ra1 r3 (fun c4 => ?_) (fun c4 => ?_)
    · rw [if_pos c4] at H
      refine j_sub (lv' := []) [] rfl ?_
      exact tX11_isThing_19   h  H
    · rw [if_neg c4] at H
      refine j_iconst (pc' := 16) dX11_isThing_15 rfl ?_
      refine j_goto (tgt := 20) dX11_isThing_16 (by decide) ?_
      refine j_sub (lv' := []) [] rfl ?_
      exact tX11_isThing_20   1 h ⟨by decide, by decide⟩ H
-- X11_isCouple
noncomputable def fX11_isCouple_26 (s0 : Int) (h : Hp) : Option (Int × Hp) :=
  (cbo s0).bind fun _ => some (s0, h)
theorem tX11_isCouple_26 {L : Nat} {xs : Nat → Int32} {l : Launch} {res : Int × Hp} (s0 : Int) (h : Hp) (rs0 : R32 s0) (H : fX11_isCouple_26 s0 h = some res) : J L xs l RX11 cX11_isCouple 3 false 2 (QB res) 0 0 26 [] [vi s0] h := by
  unfold fX11_isCouple_26 at H
  obtain ⟨u1, e1, H⟩ := bs H
  obtain rfl := Option.some.inj H
  exact j_iret dX11_isCouple_26 rs0 ⟨rfl, rfl, cbo_R e1⟩
noncomputable def fX11_isCouple_25  (h : Hp) : Option (Int × Hp) :=
  fX11_isCouple_26 0 h
theorem tX11_isCouple_25 {L : Nat} {xs : Nat → Int32} {l : Launch} {res : Int × Hp}  (h : Hp)  (H : fX11_isCouple_25  h = some res) : J L xs l RX11 cX11_isCouple 3 false 2 (QB res) 0 0 25 [] [] h := by
  unfold fX11_isCouple_25 at H
  refine j_iconst (pc' := 26) dX11_isCouple_25 rfl ?_
  exact tX11_isCouple_26   0 h ⟨by decide, by decide⟩ H
noncomputable def fX11_isCouple (a0 : Nat) (a1 : Int) (a2 : Int) (h : Hp) : Option (Int × Hp) :=
  (cob h 10 a0).bind fun _ => (fX11_isThing a0 a1 h).bind fun p2 => if p2.1 = 0 then (fX11_isCouple_25 p2.2) else ((cob p2.2 10 a0).bind fun _ => (fX11_isThing a0 a2 p2.2).bind fun p5 => if p5.1 = 0 then (fX11_isCouple_25 p5.2) else (if a1 = a2 then (fX11_isCouple_25 p5.2) else (fX11_isCouple_26 1 p5.2)))
theorem tX11_isCouple {L : Nat} {xs : Nat → Int32} {l : Launch} {res : Int × Hp} (a0 : Nat) (a1 : Int) (a2 : Int) (h : Hp) (ra1 : R32 a1) (ra2 : R32 a2) (H : fX11_isCouple a0 a1 a2 h = some res) : J L xs l RX11 cX11_isCouple 3 false 2 (QB res) 0 0 0 (alv 0 [vr a0, vi a1, vi a2]) [] h := by
  unfold fX11_isCouple at H
  show J L xs l RX11 cX11_isCouple 3 false 2 (QB res) 0 0 0 [(0, vr a0), (1, vi a1), (2, vi a2)] [] h
  refine j_aload_n (i := 0) (pc' := 1) dX11_isCouple_0 rfl rfl 0 rfl ?_
  refine j_iload_n (i := 1) (pc' := 2) dX11_isCouple_1 rfl rfl 1 rfl ?_
  obtain ⟨u1, e1, H⟩ := bs H
  obtain ⟨p2, e2, H⟩ := bs H
  refine j_cVb (y := yX11_isThing) (dY := 1) (vs := [vi a1]) (st := []) (q := a0) (pc' := 5) dX11_isCouple_2 rfl ymX11_isThing yvX11_isThing ml_X11_131 (by decide) rfl (Nat.le_of_ble_eq_true rfl) (Nat.le_of_ble_eq_true rfl) e1 (tX11_isThing a0 a1 h ra1 e2) (fun r2 b2 z2 => ?_)
  refine j_if_eq (tgt := 25) (pc' := 8) dX11_isCouple_5 (by decide) rfl r2 (fun c3 => ?_) (fun c3 => ?_)
  · rw [if_pos c3] at H
    refine j_sub (lv' := []) [] rfl ?_
    exact tX11_isCouple_25   p2.2  H
  · rw [if_neg c3] at H
    refine j_aload_n (i := 0) (pc' := 9) dX11_isCouple_8 rfl rfl 0 rfl ?_
    refine j_iload_n (i := 2) (pc' := 10) dX11_isCouple_9 rfl rfl 2 rfl ?_
    obtain ⟨u4, e4, H⟩ := bs H
    obtain ⟨p5, e5, H⟩ := bs H
    refine j_cVb (y := yX11_isThing) (dY := 1) (vs := [vi a2]) (st := []) (q := a0) (pc' := 13) dX11_isCouple_10 rfl ymX11_isThing yvX11_isThing ml_X11_131 (by decide) rfl (Nat.le_of_ble_eq_true rfl) (Nat.le_of_ble_eq_true rfl) e4 (tX11_isThing a0 a2 p2.2 ra2 e5) (fun r5 b5 z5 => ?_)
    refine j_if_eq (tgt := 25) (pc' := 16) dX11_isCouple_13 (by decide) rfl r5 (fun c6 => ?_) (fun c6 => ?_)
    · rw [if_pos c6] at H
      refine j_sub (lv' := []) [] rfl ?_
      exact tX11_isCouple_25   p5.2  H
    · rw [if_neg c6] at H
      refine j_iload_n (i := 1) (pc' := 17) dX11_isCouple_16 rfl rfl 1 rfl ?_
      refine j_iload_n (i := 2) (pc' := 18) dX11_isCouple_17 rfl rfl 2 rfl ?_
      refine j_icmp_eq (tgt := 25) (pc' := 21) dX11_isCouple_18 (by decide) rfl ra1 ra2 (fun c7 => ?_) (fun c7 => ?_)
      · rw [if_pos c7] at H
        refine j_sub (lv' := []) [] rfl ?_
        exact tX11_isCouple_25   p5.2  H
      · rw [if_neg c7] at H
        refine j_iconst (pc' := 22) dX11_isCouple_21 rfl ?_
        refine j_goto (tgt := 26) dX11_isCouple_22 (by decide) ?_
        refine j_sub (lv' := []) [] rfl ?_
        exact tX11_isCouple_26   1 p5.2 ⟨by decide, by decide⟩ H
-- X11_refuse
noncomputable def fX11_refuse (a0 : Nat) (a1 : Int) (h : Hp) : Option (Int × Hp) :=
  (putV h 10 a0 11 (vi a1)).bind fun h1 => some ((-1), h1)
theorem tX11_refuse {L : Nat} {xs : Nat → Int32} {l : Launch} {res : Int × Hp} (a0 : Nat) (a1 : Int) (h : Hp) (ra1 : R32 a1) (H : fX11_refuse a0 a1 h = some res) : J L xs l RX11 cX11_refuse 2 false 1 (QI res) 0 0 0 (alv 0 [vr a0, vi a1]) [] h := by
  unfold fX11_refuse at H
  show J L xs l RX11 cX11_refuse 2 false 1 (QI res) 0 0 0 [(0, vr a0), (1, vi a1)] [] h
  refine j_aload_n (i := 0) (pc' := 1) dX11_refuse_0 rfl rfl 0 rfl ?_
  refine j_iload_n (i := 1) (pc' := 2) dX11_refuse_1 rfl rfl 1 rfl ?_
  obtain ⟨h1, e1, H⟩ := bs H
  refine j_putV (pc' := 5) dX11_refuse_2 rfl fp_X11_83 tI ra1 e1 ?_
  refine j_iconst (pc' := 6) dX11_refuse_5 rfl ?_
  obtain rfl := Option.some.inj H
  exact j_iret dX11_refuse_6 ⟨by decide, by decide⟩ ⟨rfl, rfl⟩
-- X11_way
noncomputable def fX11_way_20 (x0 : Nat) (h : Hp) : Option (Int × Hp) :=
  (cob h 10 x0).bind fun _ => (fX11_refuse x0 1 h).bind fun p2 => some (p2.1, p2.2)
theorem tX11_way_20 {L : Nat} {xs : Nat → Int32} {l : Launch} {res : Int × Hp} (x0 : Nat) (h : Hp)  (H : fX11_way_20 x0 h = some res) : J L xs l RX11 cX11_way 5 false 5 (QI res) 0 0 20 [(0, vr x0)] [] h := by
  unfold fX11_way_20 at H
  refine j_aload_n (i := 0) (pc' := 21) dX11_way_20 rfl rfl 0 rfl ?_
  refine j_iconst (pc' := 22) dX11_way_21 rfl ?_
  obtain ⟨u1, e1, H⟩ := bs H
  obtain ⟨p2, e2, H⟩ := bs H
  refine j_cVi (y := yX11_refuse) (dY := 1) (vs := [vi 1]) (st := []) (q := x0) (pc' := 25) dX11_way_22 rfl ymX11_refuse yvX11_refuse ml_X11_105 (by decide) rfl (Nat.le_of_ble_eq_true rfl) (Nat.le_of_ble_eq_true rfl) e1 (tX11_refuse x0 1 h ⟨by decide, by decide⟩ e2) (fun r2 z2 => ?_)
  obtain rfl := Option.some.inj H
  exact j_iret dX11_way_25 r2 ⟨rfl, rfl⟩
noncomputable def fX11_way (a0 : Nat) (a1 : Int) (a2 : Int) (a3 : Int) (h : Hp) : Option (Int × Hp) :=
  (cob h 10 a0).bind fun _ => (fX11_isCouple a0 a1 a2 h).bind fun p2 => if p2.1 = 0 then (fX11_way_20 a0 p2.2) else (if a3 < 0 then (fX11_way_20 a0 p2.2) else (if a3 ≤ 10000 then ((cob p2.2 10 a0).bind fun _ => (crf p2.2 a0).bind fun _ => (fX11_change a0 p2.2).bind fun h8 => (getR h8 10 a0 0).bind fun v9 => (cob h8 6 v9).bind fun _ => (fX7_wayOf v9 a1 a2 h8).bind fun p11 => (getR p11.2 10 a0 0).bind fun v12 => (cob p11.2 6 v12).bind fun _ => (fX7_setWay v12 a1 a2 a3 p11.2).bind fun h14 => some (p11.1, h14)) else (fX11_way_20 a0 p2.2)))
theorem tX11_way {L : Nat} {xs : Nat → Int32} {l : Launch} {res : Int × Hp} (a0 : Nat) (a1 : Int) (a2 : Int) (a3 : Int) (h : Hp) (ra1 : R32 a1) (ra2 : R32 a2) (ra3 : R32 a3) (H : fX11_way a0 a1 a2 a3 h = some res) : J L xs l RX11 cX11_way 5 false 5 (QI res) 8 515 0 (alv 0 [vr a0, vi a1, vi a2, vi a3]) [] h := by
  unfold fX11_way at H
  show J L xs l RX11 cX11_way 5 false 5 (QI res) 8 515 0 [(0, vr a0), (1, vi a1), (2, vi a2), (3, vi a3)] [] h
  refine j_aload_n (i := 0) (pc' := 1) dX11_way_0 rfl rfl 0 rfl ?_
  refine j_iload_n (i := 1) (pc' := 2) dX11_way_1 rfl rfl 1 rfl ?_
  refine j_iload_n (i := 2) (pc' := 3) dX11_way_2 rfl rfl 2 rfl ?_
  obtain ⟨u1, e1, H⟩ := bs H
  obtain ⟨p2, e2, H⟩ := bs H
  refine j_cVb (y := yX11_isCouple) (dY := 2) (vs := [vi a1, vi a2]) (st := []) (q := a0) (pc' := 6) dX11_way_3 rfl ymX11_isCouple yvX11_isCouple ml_X11_101 (by decide) rfl (Nat.le_of_ble_eq_true rfl) (Nat.le_of_ble_eq_true rfl) e1 (tX11_isCouple a0 a1 a2 h ra1 ra2 e2) (fun r2 b2 z2 => ?_)
  refine j_if_eq (tgt := 20) (pc' := 9) dX11_way_6 (by decide) rfl r2 (fun c3 => ?_) (fun c3 => ?_)
  · rw [if_pos c3] at H
    refine j_sub (lv' := [(0, vr a0)]) [0] rfl ?_
    refine j_rc (rc2 := 0) (rs2 := 0) (by omega) (by omega) ?_
    exact tX11_way_20   a0 p2.2  H
  · rw [if_neg c3] at H
    refine j_iload_n (i := 3) (pc' := 10) dX11_way_9 rfl rfl 3 rfl ?_
    refine j_if_lt (tgt := 20) (pc' := 13) dX11_way_10 (by decide) rfl ra3 (fun c4 => ?_) (fun c4 => ?_)
    · rw [if_pos c4] at H
      refine j_sub (lv' := [(0, vr a0)]) [0] rfl ?_
      refine j_rc (rc2 := 0) (rs2 := 0) (by omega) (by omega) ?_
      exact tX11_way_20   a0 p2.2  H
    · rw [if_neg c4] at H
      refine j_iload_n (i := 3) (pc' := 14) dX11_way_13 rfl rfl 3 rfl ?_
      refine j_sipush (pc' := 17) dX11_way_14 rfl (by decide +kernel) ?_
      refine j_icmp_le (tgt := 26) (pc' := 20) dX11_way_17 (by decide) rfl ra3 ⟨by decide, by decide⟩ (fun c5 => ?_) (fun c5 => ?_)
      · rw [if_pos c5] at H
        refine j_aload_n (i := 0) (pc' := 27) dX11_way_26 rfl rfl 0 rfl ?_
        obtain ⟨u6, e6, H⟩ := bs H
        obtain ⟨u7, e7, H⟩ := bs H
        obtain ⟨h8, e8, H⟩ := bs H
        refine j_aVv (y := yX11_change) (dY := 4) (vs := []) (st := []) (q := a0) (mc := 8) (ms := 515) (rc := 0) (rs := 0) (pc' := 30) dX11_way_27 rfl ymX11_change yvX11_change ml_X11_95 (by decide) rfl (Nat.le_of_ble_eq_true rfl) (Nat.le_of_ble_eq_true rfl) e6 trivial ⟨(crf_R e7), trivial, trivial, trivial, trivial⟩ (tX11_change a0 p2.2 e8) ?_
        refine j_aload_n (i := 0) (pc' := 31) dX11_way_30 rfl rfl 0 rfl ?_
        obtain ⟨v9, e9, H⟩ := bs H
        refine j_getR (pc' := 34) dX11_way_31 rfl fl_X11_10 e9 (fun r9 => ?_)
        refine j_iload_n (i := 1) (pc' := 35) dX11_way_34 rfl rfl 1 rfl ?_
        refine j_iload_n (i := 2) (pc' := 36) dX11_way_35 rfl rfl 2 rfl ?_
        obtain ⟨u10, e10, H⟩ := bs H
        obtain ⟨p11, e11, H⟩ := bs H
        refine j_cVi (y := yX7_wayOf) (dY := 1) (vs := [vi a1, vi a2]) (st := []) (q := v9) (pc' := 39) dX11_way_36 rfl ymX7_wayOf yvX7_wayOf ml_X11_109 (by decide) rfl (Nat.le_of_ble_eq_true rfl) (Nat.le_of_ble_eq_true rfl) e10 (tX7_wayOf v9 a1 a2 h8 ra1 ra2 e11) (fun r11 z11 => ?_)
        refine j_istore (lv' := [(0, vr a0), (1, vi a1), (2, vi a2), (3, vi a3), (4, vi p11.1)]) (pc' := 41) dX11_way_39 rfl (by decide) [1, 2, 3, 4, 0] rfl ?_
        refine j_aload_n (i := 0) (pc' := 42) dX11_way_41 rfl rfl 0 rfl ?_
        obtain ⟨v12, e12, H⟩ := bs H
        refine j_getR (pc' := 45) dX11_way_42 rfl fl_X11_10 e12 (fun r12 => ?_)
        refine j_iload_n (i := 1) (pc' := 46) dX11_way_45 rfl rfl 1 rfl ?_
        refine j_iload_n (i := 2) (pc' := 47) dX11_way_46 rfl rfl 2 rfl ?_
        refine j_iload_n (i := 3) (pc' := 48) dX11_way_47 rfl rfl 3 rfl ?_
        obtain ⟨u13, e13, H⟩ := bs H
        obtain ⟨h14, e14, H⟩ := bs H
        refine j_cVv (y := yX7_setWay) (dY := 1) (vs := [vi a1, vi a2, vi a3]) (st := []) (q := v12) (pc' := 51) dX11_way_48 rfl ymX7_setWay yvX7_setWay ml_X11_113 (by decide) rfl (Nat.le_of_ble_eq_true rfl) (Nat.le_of_ble_eq_true rfl) e13 (tX7_setWay v12 a1 a2 a3 p11.2 ra1 ra2 ra3 e14) (fun z14 => ?_)
        refine j_iload (pc' := 53) dX11_way_51 rfl 4 rfl ?_
        obtain rfl := Option.some.inj H
        exact j_iret dX11_way_53 r11 ⟨rfl, rfl⟩
      · rw [if_neg c5] at H
        refine j_sub (lv' := [(0, vr a0)]) [0] rfl ?_
        refine j_rc (rc2 := 0) (rs2 := 0) (by omega) (by omega) ?_
        exact tX11_way_20   a0 p2.2  H
-- X11_sheet
noncomputable def fX11_sheet_9 (x0 : Nat) (h : Hp) : Option (Int × Hp) :=
  (cob h 10 x0).bind fun _ => (fX11_refuse x0 1 h).bind fun p2 => some (p2.1, p2.2)
theorem tX11_sheet_9 {L : Nat} {xs : Nat → Int32} {l : Launch} {res : Int × Hp} (x0 : Nat) (h : Hp)  (H : fX11_sheet_9 x0 h = some res) : J L xs l RX11 cX11_sheet 3 false 3 (QI res) 0 0 9 [(0, vr x0)] [] h := by
  unfold fX11_sheet_9 at H
  refine j_aload_n (i := 0) (pc' := 10) dX11_sheet_9 rfl rfl 0 rfl ?_
  refine j_iconst (pc' := 11) dX11_sheet_10 rfl ?_
  obtain ⟨u1, e1, H⟩ := bs H
  obtain ⟨p2, e2, H⟩ := bs H
  refine j_cVi (y := yX11_refuse) (dY := 1) (vs := [vi 1]) (st := []) (q := x0) (pc' := 14) dX11_sheet_11 rfl ymX11_refuse yvX11_refuse ml_X11_105 (by decide) rfl (Nat.le_of_ble_eq_true rfl) (Nat.le_of_ble_eq_true rfl) e1 (tX11_refuse x0 1 h ⟨by decide, by decide⟩ e2) (fun r2 z2 => ?_)
  obtain rfl := Option.some.inj H
  exact j_iret dX11_sheet_14 r2 ⟨rfl, rfl⟩
noncomputable def fX11_sheet_67 (x0 : Nat) (s0 : Int) (s1 : Int) (s2 : Nat) (h : Hp) : Option (Int × Hp) :=
  (cob h 8 s2).bind fun _ => (fX9_renew s2 s1 s0 h).bind fun h2 => (getR h2 10 x0 2).bind fun v3 => (getI h2 8 v3 1).bind fun v4 => some (v4, h2)
theorem tX11_sheet_67 {L : Nat} {xs : Nat → Int32} {l : Launch} {res : Int × Hp} (x0 : Nat) (s0 : Int) (s1 : Int) (s2 : Nat) (h : Hp) (rs0 : R32 s0) (rs1 : R32 s1) (H : fX11_sheet_67 x0 s0 s1 s2 h = some res) : J L xs l RX11 cX11_sheet 3 false 3 (QI res) 0 0 67 [(0, vr x0)] [vi s0, vi s1, vr s2] h := by
  unfold fX11_sheet_67 at H
  obtain ⟨u1, e1, H⟩ := bs H
  obtain ⟨h2, e2, H⟩ := bs H
  refine j_cVv (y := yX9_renew) (dY := 2) (vs := [vi s1, vi s0]) (st := []) (q := s2) (pc' := 70) dX11_sheet_67 rfl ymX9_renew yvX9_renew ml_X11_117 (by decide) rfl (Nat.le_of_ble_eq_true rfl) (Nat.le_of_ble_eq_true rfl) e1 (tX9_renew s2 s1 s0 h rs1 rs0 e2) (fun z2 => ?_)
  refine j_aload_n (i := 0) (pc' := 71) dX11_sheet_70 rfl rfl 0 rfl ?_
  obtain ⟨v3, e3, H⟩ := bs H
  refine j_getR (pc' := 74) dX11_sheet_71 rfl fl_X11_26 e3 (fun r3 => ?_)
  obtain ⟨v4, e4, H⟩ := bs H
  refine j_getI (pc' := 77) dX11_sheet_74 rfl fl_X11_121 e4 (fun r4 => ?_)
  obtain rfl := Option.some.inj H
  exact j_iret dX11_sheet_77 r4 ⟨rfl, rfl⟩
noncomputable def fX11_sheet_47 (x0 : Nat) (x1 : Int) (x2 : Int) (h : Hp) : Option (Int × Hp) :=
  (putV h 10 x0 11 (vi 0)).bind fun h1 => (getR h1 10 x0 2).bind fun v2 => if x1 = 4 then (fX11_sheet_67 x0 0 x1 v2 h1) else (fX11_sheet_67 x0 x2 x1 v2 h1)
theorem tX11_sheet_47 {L : Nat} {xs : Nat → Int32} {l : Launch} {res : Int × Hp} (x0 : Nat) (x1 : Int) (x2 : Int) (h : Hp) (rx1 : R32 x1) (rx2 : R32 x2) (H : fX11_sheet_47 x0 x1 x2 h = some res) : J L xs l RX11 cX11_sheet 3 false 3 (QI res) 0 0 47 [(0, vr x0), (1, vi x1), (2, vi x2)] [] h := by
  unfold fX11_sheet_47 at H
  refine j_aload_n (i := 0) (pc' := 48) dX11_sheet_47 rfl rfl 0 rfl ?_
  refine j_iconst (pc' := 49) dX11_sheet_48 rfl ?_
  obtain ⟨h1, e1, H⟩ := bs H
  refine j_putV (pc' := 52) dX11_sheet_49 rfl fp_X11_83 tI ⟨by decide, by decide⟩ e1 ?_
  refine j_aload_n (i := 0) (pc' := 53) dX11_sheet_52 rfl rfl 0 rfl ?_
  obtain ⟨v2, e2, H⟩ := bs H
  refine j_getR (pc' := 56) dX11_sheet_53 rfl fl_X11_26 e2 (fun r2 => ?_)
  refine j_iload_n (i := 1) (pc' := 57) dX11_sheet_56 rfl rfl 1 rfl ?_
  refine j_iload_n (i := 1) (pc' := 58) dX11_sheet_57 rfl rfl 1 rfl ?_
  refine j_iconst (pc' := 59) dX11_sheet_58 rfl ?_
  refine j_icmp_ne (tgt := 66) (pc' := 62) dX11_sheet_59 (by decide) rfl rx1 ⟨by decide, by decide⟩ (fun c3 => ?_) (fun c3 => ?_)
  · rw [if_neg c3] at H
    refine j_iload_n (i := 2) (pc' := 67) dX11_sheet_66 rfl rfl 2 rfl ?_
    refine j_sub (lv' := [(0, vr x0)]) [0] rfl ?_
    exact tX11_sheet_67   x0 x2 x1 v2 h1 rx2 rx1 H
  · rw [if_pos c3] at H
    refine j_iconst (pc' := 63) dX11_sheet_62 rfl ?_
    refine j_goto (tgt := 67) dX11_sheet_63 (by decide) ?_
    refine j_sub (lv' := [(0, vr x0)]) [0] rfl ?_
    exact tX11_sheet_67   x0 0 x1 v2 h1 ⟨by decide, by decide⟩ rx1 H
noncomputable def fX11_sheet_32 (x0 : Nat) (x1 : Int) (x2 : Int) (h : Hp) : Option (Int × Hp) :=
  if x1 = 4 then (fX11_sheet_47 x0 x1 x2 h) else (if 0 ≤ x2 then (fX11_sheet_47 x0 x1 x2 h) else ((cob h 10 x0).bind fun _ => (fX11_refuse x0 4 h).bind fun p4 => some (p4.1, p4.2)))
theorem tX11_sheet_32 {L : Nat} {xs : Nat → Int32} {l : Launch} {res : Int × Hp} (x0 : Nat) (x1 : Int) (x2 : Int) (h : Hp) (rx1 : R32 x1) (rx2 : R32 x2) (H : fX11_sheet_32 x0 x1 x2 h = some res) : J L xs l RX11 cX11_sheet 3 false 3 (QI res) 0 0 32 [(0, vr x0), (1, vi x1), (2, vi x2)] [] h := by
  unfold fX11_sheet_32 at H
  refine j_iload_n (i := 1) (pc' := 33) dX11_sheet_32 rfl rfl 1 rfl ?_
  refine j_iconst (pc' := 34) dX11_sheet_33 rfl ?_
  refine j_icmp_eq (tgt := 47) (pc' := 37) dX11_sheet_34 (by decide) rfl rx1 ⟨by decide, by decide⟩ (fun c1 => ?_) (fun c1 => ?_)
  · rw [if_pos c1] at H
    exact tX11_sheet_47   x0 x1 x2 h rx1 rx2 H
  · rw [if_neg c1] at H
    refine j_iload_n (i := 2) (pc' := 38) dX11_sheet_37 rfl rfl 2 rfl ?_
    refine j_if_ge (tgt := 47) (pc' := 41) dX11_sheet_38 (by decide) rfl rx2 (fun c2 => ?_) (fun c2 => ?_)
    · rw [if_pos c2] at H
      exact tX11_sheet_47   x0 x1 x2 h rx1 rx2 H
    · rw [if_neg c2] at H
      refine j_aload_n (i := 0) (pc' := 42) dX11_sheet_41 rfl rfl 0 rfl ?_
      refine j_iconst (pc' := 43) dX11_sheet_42 rfl ?_
      obtain ⟨u3, e3, H⟩ := bs H
      obtain ⟨p4, e4, H⟩ := bs H
      refine j_cVi (y := yX11_refuse) (dY := 1) (vs := [vi 4]) (st := []) (q := x0) (pc' := 46) dX11_sheet_43 rfl ymX11_refuse yvX11_refuse ml_X11_105 (by decide) rfl (Nat.le_of_ble_eq_true rfl) (Nat.le_of_ble_eq_true rfl) e3 (tX11_refuse x0 4 h ⟨by decide, by decide⟩ e4) (fun r4 z4 => ?_)
      obtain rfl := Option.some.inj H
      exact j_iret dX11_sheet_46 r4 ⟨rfl, rfl⟩
noncomputable def fX11_sheet (a0 : Nat) (a1 : Int) (a2 : Int) (h : Hp) : Option (Int × Hp) :=
  if a1 < 0 then (fX11_sheet_9 a0 h) else (if a1 ≤ 4 then (if a1 = 4 then (fX11_sheet_32 a0 a1 a2 h) else (if a2 ≤ 8 then (fX11_sheet_32 a0 a1 a2 h) else ((cob h 10 a0).bind fun _ => (fX11_refuse a0 1 h).bind fun p6 => some (p6.1, p6.2)))) else (fX11_sheet_9 a0 h))
theorem tX11_sheet {L : Nat} {xs : Nat → Int32} {l : Launch} {res : Int × Hp} (a0 : Nat) (a1 : Int) (a2 : Int) (h : Hp) (ra1 : R32 a1) (ra2 : R32 a2) (H : fX11_sheet a0 a1 a2 h = some res) : J L xs l RX11 cX11_sheet 3 false 3 (QI res) 0 0 0 (alv 0 [vr a0, vi a1, vi a2]) [] h := by
  unfold fX11_sheet at H
  show J L xs l RX11 cX11_sheet 3 false 3 (QI res) 0 0 0 [(0, vr a0), (1, vi a1), (2, vi a2)] [] h
  refine j_iload_n (i := 1) (pc' := 1) dX11_sheet_0 rfl rfl 1 rfl ?_
  refine j_if_lt (tgt := 9) (pc' := 4) dX11_sheet_1 (by decide) rfl ra1 (fun c1 => ?_) (fun c1 => ?_)
  · rw [if_pos c1] at H
    refine j_sub (lv' := [(0, vr a0)]) [0] rfl ?_
    exact tX11_sheet_9   a0 h  H
  · rw [if_neg c1] at H
    refine j_iload_n (i := 1) (pc' := 5) dX11_sheet_4 rfl rfl 1 rfl ?_
    refine j_iconst (pc' := 6) dX11_sheet_5 rfl ?_
    refine j_icmp_le (tgt := 15) (pc' := 9) dX11_sheet_6 (by decide) rfl ra1 ⟨by decide, by decide⟩ (fun c2 => ?_) (fun c2 => ?_)
    · rw [if_pos c2] at H
      refine j_iload_n (i := 1) (pc' := 16) dX11_sheet_15 rfl rfl 1 rfl ?_
      refine j_iconst (pc' := 17) dX11_sheet_16 rfl ?_
      refine j_icmp_eq (tgt := 32) (pc' := 20) dX11_sheet_17 (by decide) rfl ra1 ⟨by decide, by decide⟩ (fun c3 => ?_) (fun c3 => ?_)
      · rw [if_pos c3] at H
        exact tX11_sheet_32   a0 a1 a2 h ra1 ra2 H
      · rw [if_neg c3] at H
        refine j_iload_n (i := 2) (pc' := 21) dX11_sheet_20 rfl rfl 2 rfl ?_
        refine j_bipush (pc' := 23) dX11_sheet_21 rfl (by decide +kernel) ?_
        refine j_icmp_le (tgt := 32) (pc' := 26) dX11_sheet_23 (by decide) rfl ra2 ⟨by decide, by decide⟩ (fun c4 => ?_) (fun c4 => ?_)
        · rw [if_pos c4] at H
          exact tX11_sheet_32   a0 a1 a2 h ra1 ra2 H
        · rw [if_neg c4] at H
          refine j_aload_n (i := 0) (pc' := 27) dX11_sheet_26 rfl rfl 0 rfl ?_
          refine j_iconst (pc' := 28) dX11_sheet_27 rfl ?_
          obtain ⟨u5, e5, H⟩ := bs H
          obtain ⟨p6, e6, H⟩ := bs H
          refine j_cVi (y := yX11_refuse) (dY := 1) (vs := [vi 1]) (st := []) (q := a0) (pc' := 31) dX11_sheet_28 rfl ymX11_refuse yvX11_refuse ml_X11_105 (by decide) rfl (Nat.le_of_ble_eq_true rfl) (Nat.le_of_ble_eq_true rfl) e5 (tX11_refuse a0 1 h ⟨by decide, by decide⟩ e6) (fun r6 z6 => ?_)
          obtain rfl := Option.some.inj H
          exact j_iret dX11_sheet_31 r6 ⟨rfl, rfl⟩
    · rw [if_neg c2] at H
      refine j_sub (lv' := [(0, vr a0)]) [0] rfl ?_
      exact tX11_sheet_9   a0 h  H
-- X11_entry
noncomputable def fX11_entry_22 (x0 : Nat) (h : Hp) : Option (Int × Hp) :=
  (cob h 10 x0).bind fun _ => (fX11_deny x0 2 h).bind fun p2 => (cbo p2.1).bind fun _ => some (p2.1, p2.2)
theorem tX11_entry_22 {L : Nat} {xs : Nat → Int32} {l : Launch} {res : Int × Hp} (x0 : Nat) (h : Hp)  (H : fX11_entry_22 x0 h = some res) : J L xs l RX11 cX11_entry 4 false 2 (QB res) 0 0 22 [(0, vr x0)] [] h := by
  unfold fX11_entry_22 at H
  refine j_aload_n (i := 0) (pc' := 23) dX11_entry_22 rfl rfl 0 rfl ?_
  refine j_iconst (pc' := 24) dX11_entry_23 rfl ?_
  obtain ⟨u1, e1, H⟩ := bs H
  obtain ⟨p2, e2, H⟩ := bs H
  refine j_cVb (y := yX11_deny) (dY := 1) (vs := [vi 2]) (st := []) (q := x0) (pc' := 27) dX11_entry_24 rfl ymX11_deny yvX11_deny ml_X11_91 (by decide) rfl (Nat.le_of_ble_eq_true rfl) (Nat.le_of_ble_eq_true rfl) e1 (tX11_deny x0 2 h ⟨by decide, by decide⟩ e2) (fun r2 b2 z2 => ?_)
  obtain ⟨u3, e3, H⟩ := bs H
  obtain rfl := Option.some.inj H
  exact j_iret dX11_entry_27 r2 ⟨rfl, rfl, cbo_R e3⟩
noncomputable def fX11_entry_43 (x0 : Nat) (h : Hp) : Option (Int × Hp) :=
  (cob h 10 x0).bind fun _ => (fX11_deny x0 1 h).bind fun p2 => (cbo p2.1).bind fun _ => some (p2.1, p2.2)
theorem tX11_entry_43 {L : Nat} {xs : Nat → Int32} {l : Launch} {res : Int × Hp} (x0 : Nat) (h : Hp)  (H : fX11_entry_43 x0 h = some res) : J L xs l RX11 cX11_entry 4 false 2 (QB res) 0 0 43 [(0, vr x0)] [] h := by
  unfold fX11_entry_43 at H
  refine j_aload_n (i := 0) (pc' := 44) dX11_entry_43 rfl rfl 0 rfl ?_
  refine j_iconst (pc' := 45) dX11_entry_44 rfl ?_
  obtain ⟨u1, e1, H⟩ := bs H
  obtain ⟨p2, e2, H⟩ := bs H
  refine j_cVb (y := yX11_deny) (dY := 1) (vs := [vi 1]) (st := []) (q := x0) (pc' := 48) dX11_entry_45 rfl ymX11_deny yvX11_deny ml_X11_91 (by decide) rfl (Nat.le_of_ble_eq_true rfl) (Nat.le_of_ble_eq_true rfl) e1 (tX11_deny x0 1 h ⟨by decide, by decide⟩ e2) (fun r2 b2 z2 => ?_)
  obtain ⟨u3, e3, H⟩ := bs H
  obtain rfl := Option.some.inj H
  exact j_iret dX11_entry_48 r2 ⟨rfl, rfl, cbo_R e3⟩
noncomputable def fX11_entry (a0 : Nat) (a1 : Int) (a2 : Int) (h : Hp) : Option (Int × Hp) :=
  (getR h 10 a0 2).bind fun v1 => (getI h 8 v1 0).bind fun v2 => if v2 = (-1) then (fX11_entry_22 a0 h) else ((getR h 10 a0 2).bind fun v4 => (getI h 8 v4 0).bind fun v5 => if v5 = 4 then (fX11_entry_22 a0 h) else (if a1 < 0 then (fX11_entry_43 a0 h) else ((getR h 10 a0 2).bind fun v8 => (getI h 8 v8 1).bind fun v9 => if a1 < v9 then ((putV h 10 a0 11 (vi 0)).bind fun h11 => (getR h11 10 a0 2).bind fun v12 => (cob h11 8 v12).bind fun _ => (fX9_write v12 a1 a2 h11).bind fun h14 => some (1, h14)) else (fX11_entry_43 a0 h))))
theorem tX11_entry {L : Nat} {xs : Nat → Int32} {l : Launch} {res : Int × Hp} (a0 : Nat) (a1 : Int) (a2 : Int) (h : Hp) (ra1 : R32 a1) (ra2 : R64 a2) (H : fX11_entry a0 a1 a2 h = some res) : J L xs l RX11 cX11_entry 4 false 2 (QB res) 0 0 0 (alv 0 [vr a0, vi a1, vl a2]) [] h := by
  unfold fX11_entry at H
  show J L xs l RX11 cX11_entry 4 false 2 (QB res) 0 0 0 [(0, vr a0), (1, vi a1), (2, vl a2)] [] h
  refine j_aload_n (i := 0) (pc' := 1) dX11_entry_0 rfl rfl 0 rfl ?_
  obtain ⟨v1, e1, H⟩ := bs H
  refine j_getR (pc' := 4) dX11_entry_1 rfl fl_X11_26 e1 (fun r1 => ?_)
  obtain ⟨v2, e2, H⟩ := bs H
  refine j_getI (pc' := 7) dX11_entry_4 rfl fl_X11_124 e2 (fun r2 => ?_)
  refine j_iconst (pc' := 8) dX11_entry_7 rfl ?_
  refine j_icmp_eq (tgt := 22) (pc' := 11) dX11_entry_8 (by decide) rfl r2 ⟨by decide, by decide⟩ (fun c3 => ?_) (fun c3 => ?_)
  · rw [if_pos c3] at H
    refine j_sub (lv' := [(0, vr a0)]) [0] rfl ?_
    exact tX11_entry_22   a0 h  H
  · rw [if_neg c3] at H
    refine j_aload_n (i := 0) (pc' := 12) dX11_entry_11 rfl rfl 0 rfl ?_
    obtain ⟨v4, e4, H⟩ := bs H
    refine j_getR (pc' := 15) dX11_entry_12 rfl fl_X11_26 e4 (fun r4 => ?_)
    obtain ⟨v5, e5, H⟩ := bs H
    refine j_getI (pc' := 18) dX11_entry_15 rfl fl_X11_124 e5 (fun r5 => ?_)
    refine j_iconst (pc' := 19) dX11_entry_18 rfl ?_
    refine j_icmp_ne (tgt := 28) (pc' := 22) dX11_entry_19 (by decide) rfl r5 ⟨by decide, by decide⟩ (fun c6 => ?_) (fun c6 => ?_)
    · rw [if_neg c6] at H
      refine j_iload_n (i := 1) (pc' := 29) dX11_entry_28 rfl rfl 1 rfl ?_
      refine j_if_lt (tgt := 43) (pc' := 32) dX11_entry_29 (by decide) rfl ra1 (fun c7 => ?_) (fun c7 => ?_)
      · rw [if_pos c7] at H
        refine j_sub (lv' := [(0, vr a0)]) [0] rfl ?_
        exact tX11_entry_43   a0 h  H
      · rw [if_neg c7] at H
        refine j_iload_n (i := 1) (pc' := 33) dX11_entry_32 rfl rfl 1 rfl ?_
        refine j_aload_n (i := 0) (pc' := 34) dX11_entry_33 rfl rfl 0 rfl ?_
        obtain ⟨v8, e8, H⟩ := bs H
        refine j_getR (pc' := 37) dX11_entry_34 rfl fl_X11_26 e8 (fun r8 => ?_)
        obtain ⟨v9, e9, H⟩ := bs H
        refine j_getI (pc' := 40) dX11_entry_37 rfl fl_X11_121 e9 (fun r9 => ?_)
        refine j_icmp_lt (tgt := 49) (pc' := 43) dX11_entry_40 (by decide) rfl ra1 r9 (fun c10 => ?_) (fun c10 => ?_)
        · rw [if_pos c10] at H
          refine j_aload_n (i := 0) (pc' := 50) dX11_entry_49 rfl rfl 0 rfl ?_
          refine j_iconst (pc' := 51) dX11_entry_50 rfl ?_
          obtain ⟨h11, e11, H⟩ := bs H
          refine j_putV (pc' := 54) dX11_entry_51 rfl fp_X11_83 tI ⟨by decide, by decide⟩ e11 ?_
          refine j_aload_n (i := 0) (pc' := 55) dX11_entry_54 rfl rfl 0 rfl ?_
          obtain ⟨v12, e12, H⟩ := bs H
          refine j_getR (pc' := 58) dX11_entry_55 rfl fl_X11_26 e12 (fun r12 => ?_)
          refine j_iload_n (i := 1) (pc' := 59) dX11_entry_58 rfl rfl 1 rfl ?_
          refine j_lload_n (i := 2) (pc' := 60) dX11_entry_59 rfl rfl 2 rfl ?_
          obtain ⟨u13, e13, H⟩ := bs H
          obtain ⟨h14, e14, H⟩ := bs H
          refine j_cVv (y := yX9_write) (dY := 1) (vs := [vi a1, vl a2]) (st := []) (q := v12) (pc' := 63) dX11_entry_60 rfl ymX9_write yvX9_write ml_X11_127 (by decide) rfl (Nat.le_of_ble_eq_true rfl) (Nat.le_of_ble_eq_true rfl) e13 (tX9_write v12 a1 a2 h11 ra1 ra2 e14) (fun z14 => ?_)
          refine j_iconst (pc' := 64) dX11_entry_63 rfl ?_
          obtain rfl := Option.some.inj H
          exact j_iret dX11_entry_64 ⟨by decide, by decide⟩ ⟨rfl, rfl, Or.inr rfl⟩
        · rw [if_neg c10] at H
          refine j_sub (lv' := [(0, vr a0)]) [0] rfl ?_
          exact tX11_entry_43   a0 h  H
    · rw [if_pos c6] at H
      refine j_sub (lv' := [(0, vr a0)]) [0] rfl ?_
      exact tX11_entry_22   a0 h  H
-- X11_lay
noncomputable def fX11_lay_18 (x0 : Nat) (h : Hp) : Option (Int × Hp) :=
  (cob h 10 x0).bind fun _ => (fX11_deny x0 1 h).bind fun p2 => (cbo p2.1).bind fun _ => some (p2.1, p2.2)
theorem tX11_lay_18 {L : Nat} {xs : Nat → Int32} {l : Launch} {res : Int × Hp} (x0 : Nat) (h : Hp)  (H : fX11_lay_18 x0 h = some res) : J L xs l RX11 cX11_lay 3 false 5 (QB res) 0 0 18 [(0, vr x0)] [] h := by
  unfold fX11_lay_18 at H
  refine j_aload_n (i := 0) (pc' := 19) dX11_lay_18 rfl rfl 0 rfl ?_
  refine j_iconst (pc' := 20) dX11_lay_19 rfl ?_
  obtain ⟨u1, e1, H⟩ := bs H
  obtain ⟨p2, e2, H⟩ := bs H
  refine j_cVb (y := yX11_deny) (dY := 1) (vs := [vi 1]) (st := []) (q := x0) (pc' := 23) dX11_lay_20 rfl ymX11_deny yvX11_deny ml_X11_91 (by decide) rfl (Nat.le_of_ble_eq_true rfl) (Nat.le_of_ble_eq_true rfl) e1 (tX11_deny x0 1 h ⟨by decide, by decide⟩ e2) (fun r2 b2 z2 => ?_)
  obtain ⟨u3, e3, H⟩ := bs H
  obtain rfl := Option.some.inj H
  exact j_iret dX11_lay_23 r2 ⟨rfl, rfl, cbo_R e3⟩
noncomputable def fX11_lay_81 (x0 : Nat) (h : Hp) : Option (Int × Hp) :=
  (getR h 10 x0 2).bind fun v1 => (cob h 8 v1).bind fun _ => (fX9_drop v1 h).bind fun h3 => some (1, h3)
theorem tX11_lay_81 {L : Nat} {xs : Nat → Int32} {l : Launch} {res : Int × Hp} (x0 : Nat) (h : Hp)  (H : fX11_lay_81 x0 h = some res) : J L xs l RX11 cX11_lay 3 false 5 (QB res) 0 0 81 [(0, vr x0)] [] h := by
  unfold fX11_lay_81 at H
  refine j_aload_n (i := 0) (pc' := 82) dX11_lay_81 rfl rfl 0 rfl ?_
  obtain ⟨v1, e1, H⟩ := bs H
  refine j_getR (pc' := 85) dX11_lay_82 rfl fl_X11_26 e1 (fun r1 => ?_)
  obtain ⟨u2, e2, H⟩ := bs H
  obtain ⟨h3, e3, H⟩ := bs H
  refine j_cVv (y := yX9_drop) (dY := 3) (vs := []) (st := []) (q := v1) (pc' := 88) dX11_lay_85 rfl ymX9_drop yvX9_drop ml_X11_146 (by decide) rfl (Nat.le_of_ble_eq_true rfl) (Nat.le_of_ble_eq_true rfl) e2 (tX9_drop v1 h e3) (fun z3 => ?_)
  refine j_iconst (pc' := 89) dX11_lay_88 rfl ?_
  obtain rfl := Option.some.inj H
  exact j_iret dX11_lay_89 ⟨by decide, by decide⟩ ⟨rfl, rfl, Or.inr rfl⟩
noncomputable def fX11_lay_47 : Nat → Nat → Int → Int → Hp → Option (Int × Hp)
  | 0, _, _, _, _ => none
  | n + 1, x0, x1, x2, h => if 4 ≤ x2 then (fX11_lay_81 x0 h) else ((getR h 10 x0 0).bind fun v2 => (getR h 6 v2 1).bind fun v3 => (getR h 10 x0 2).bind fun v4 => (getR h 8 v4 2).bind fun v5 => (ald h 1 v5 x2).bind fun v6 => (ast h 0 v3 ((x1 * 4) + x2) (l2w v6)).bind fun h7 => (c32 (x2 + 1)).bind fun _ => fX11_lay_47 n x0 x1 (x2 + 1) h7)
theorem tX11_lay_47 {L : Nat} {xs : Nat → Int32} {l : Launch} {res : Int × Hp} : ∀ (n : Nat) (x0 : Nat) (x1 : Int) (x2 : Int) (h : Hp), R32 x1 → R32 x2 → fX11_lay_47 n x0 x1 x2 h = some res → J L xs l RX11 cX11_lay 3 false 5 (QB res) 0 0 47 [(0, vr x0), (1, vi x1), (2, vi x2)] [] h := by
  intro n
  induction n with
  | zero => intro x0 x1 x2 h rx1 rx2 H; cases H
  | succ n ih =>
    intro x0 x1 x2 h rx1 rx2 H
    rw [fX11_lay_47] at H
    refine j_iload_n (i := 2) (pc' := 48) dX11_lay_47 rfl rfl 2 rfl ?_
    refine j_iconst (pc' := 49) dX11_lay_48 rfl ?_
    refine j_icmp_ge (tgt := 81) (pc' := 52) dX11_lay_49 (by decide) rfl rx2 ⟨by decide, by decide⟩ (fun c1 => ?_) (fun c1 => ?_)
    · rw [if_pos c1] at H
      refine j_sub (lv' := [(0, vr x0)]) [0] rfl ?_
      exact tX11_lay_81   x0 h  H
    · rw [if_neg c1] at H
      refine j_aload_n (i := 0) (pc' := 53) dX11_lay_52 rfl rfl 0 rfl ?_
      obtain ⟨v2, e2, H⟩ := bs H
      refine j_getR (pc' := 56) dX11_lay_53 rfl fl_X11_10 e2 (fun r2 => ?_)
      obtain ⟨v3, e3, H⟩ := bs H
      refine j_getR (pc' := 59) dX11_lay_56 rfl fl_X11_138 e3 (fun r3 => ?_)
      refine j_iload_n (i := 1) (pc' := 60) dX11_lay_59 rfl rfl 1 rfl ?_
      refine j_iconst (pc' := 61) dX11_lay_60 rfl ?_
      refine j_imul (pc' := 62) dX11_lay_61 rfl ?_
      refine j_iload_n (i := 2) (pc' := 63) dX11_lay_62 rfl rfl 2 rfl ?_
      refine j_iadd (pc' := 64) dX11_lay_63 rfl ?_
      refine j_aload_n (i := 0) (pc' := 65) dX11_lay_64 rfl rfl 0 rfl ?_
      obtain ⟨v4, e4, H⟩ := bs H
      refine j_getR (pc' := 68) dX11_lay_65 rfl fl_X11_26 e4 (fun r4 => ?_)
      obtain ⟨v5, e5, H⟩ := bs H
      refine j_getR (pc' := 71) dX11_lay_68 rfl fl_X11_142 e5 (fun r5 => ?_)
      refine j_iload_n (i := 2) (pc' := 72) dX11_lay_71 rfl rfl 2 rfl ?_
      obtain ⟨v6, e6, H⟩ := bs H
      refine j_lald (pc' := 73) dX11_lay_72 rfl e6 (fun r6 => ?_)
      refine j_l2i (pc' := 74) dX11_lay_73 rfl ?_
      obtain ⟨h7, e7, H⟩ := bs H
      refine j_iast (pc' := 75) dX11_lay_74 rfl (R32_to _) e7 ?_
      obtain ⟨u8, e8, H⟩ := bs H
      have r8 := c32_R e8
      refine j_iinc (k0 := 2) (lv' := [(0, vr x0), (1, vi x1), (2, vi (x2 + 1))]) (pc' := 78) dX11_lay_75 rfl rfl (by decide) [1, 2, 0] rfl ?_
      refine j_goto (tgt := 47) dX11_lay_78 (by decide) ?_
      exact ih x0 x1 (x2 + 1) h7 rx1 r8 H
noncomputable def fX11_lay (a0 : Nat) (a1 : Int) (h : Hp) : Option (Int × Hp) :=
  (cob h 10 a0).bind fun _ => (fX11_isThing a0 a1 h).bind fun p2 => if p2.1 = 0 then (fX11_lay_18 a0 p2.2) else ((getR p2.2 10 a0 2).bind fun v4 => (cob p2.2 8 v4).bind fun _ => (fX9_isPlace v4 p2.2).bind fun p6 => if p6.1 = 0 then (fX11_lay_18 a0 p6.2) else ((getR p6.2 10 a0 2).bind fun v8 => (getI p6.2 8 v8 0).bind fun v9 => if v9 = (-1) then ((cob p6.2 10 a0).bind fun _ => (fX11_deny a0 2 p6.2).bind fun p15 => (cbo p15.1).bind fun _ => some (p15.1, p15.2)) else ((cob p6.2 10 a0).bind fun _ => (crf p6.2 a0).bind fun _ => (fX11_change a0 p6.2).bind fun h13 => fX11_lay_47 FU a0 a1 0 h13)))
theorem tX11_lay {L : Nat} {xs : Nat → Int32} {l : Launch} {res : Int × Hp} (a0 : Nat) (a1 : Int) (h : Hp) (ra1 : R32 a1) (H : fX11_lay a0 a1 h = some res) : J L xs l RX11 cX11_lay 3 false 5 (QB res) 8 515 0 (alv 0 [vr a0, vi a1]) [] h := by
  unfold fX11_lay at H
  show J L xs l RX11 cX11_lay 3 false 5 (QB res) 8 515 0 [(0, vr a0), (1, vi a1)] [] h
  refine j_aload_n (i := 0) (pc' := 1) dX11_lay_0 rfl rfl 0 rfl ?_
  refine j_iload_n (i := 1) (pc' := 2) dX11_lay_1 rfl rfl 1 rfl ?_
  obtain ⟨u1, e1, H⟩ := bs H
  obtain ⟨p2, e2, H⟩ := bs H
  refine j_cVb (y := yX11_isThing) (dY := 1) (vs := [vi a1]) (st := []) (q := a0) (pc' := 5) dX11_lay_2 rfl ymX11_isThing yvX11_isThing ml_X11_131 (by decide) rfl (Nat.le_of_ble_eq_true rfl) (Nat.le_of_ble_eq_true rfl) e1 (tX11_isThing a0 a1 h ra1 e2) (fun r2 b2 z2 => ?_)
  refine j_if_eq (tgt := 18) (pc' := 8) dX11_lay_5 (by decide) rfl r2 (fun c3 => ?_) (fun c3 => ?_)
  · rw [if_pos c3] at H
    refine j_sub (lv' := [(0, vr a0)]) [0] rfl ?_
    refine j_rc (rc2 := 0) (rs2 := 0) (by omega) (by omega) ?_
    exact tX11_lay_18   a0 p2.2  H
  · rw [if_neg c3] at H
    refine j_aload_n (i := 0) (pc' := 9) dX11_lay_8 rfl rfl 0 rfl ?_
    obtain ⟨v4, e4, H⟩ := bs H
    refine j_getR (pc' := 12) dX11_lay_9 rfl fl_X11_26 e4 (fun r4 => ?_)
    obtain ⟨u5, e5, H⟩ := bs H
    obtain ⟨p6, e6, H⟩ := bs H
    refine j_cVb (y := yX9_isPlace) (dY := 1) (vs := []) (st := []) (q := v4) (pc' := 15) dX11_lay_12 rfl ymX9_isPlace yvX9_isPlace ml_X11_134 (by decide) rfl (Nat.le_of_ble_eq_true rfl) (Nat.le_of_ble_eq_true rfl) e5 (tX9_isPlace v4 p2.2 e6) (fun r6 b6 z6 => ?_)
    refine j_if_ne (tgt := 24) (pc' := 18) dX11_lay_15 (by decide) rfl r6 (fun c7 => ?_) (fun c7 => ?_)
    · rw [if_neg c7] at H
      refine j_aload_n (i := 0) (pc' := 25) dX11_lay_24 rfl rfl 0 rfl ?_
      obtain ⟨v8, e8, H⟩ := bs H
      refine j_getR (pc' := 28) dX11_lay_25 rfl fl_X11_26 e8 (fun r8 => ?_)
      obtain ⟨v9, e9, H⟩ := bs H
      refine j_getI (pc' := 31) dX11_lay_28 rfl fl_X11_124 e9 (fun r9 => ?_)
      refine j_iconst (pc' := 32) dX11_lay_31 rfl ?_
      refine j_icmp_ne (tgt := 41) (pc' := 35) dX11_lay_32 (by decide) rfl r9 ⟨by decide, by decide⟩ (fun c10 => ?_) (fun c10 => ?_)
      · rw [if_neg c10] at H
        refine j_aload_n (i := 0) (pc' := 42) dX11_lay_41 rfl rfl 0 rfl ?_
        obtain ⟨u11, e11, H⟩ := bs H
        obtain ⟨u12, e12, H⟩ := bs H
        obtain ⟨h13, e13, H⟩ := bs H
        refine j_aVv (y := yX11_change) (dY := 4) (vs := []) (st := []) (q := a0) (mc := 8) (ms := 515) (rc := 0) (rs := 0) (pc' := 45) dX11_lay_42 rfl ymX11_change yvX11_change ml_X11_95 (by decide) rfl (Nat.le_of_ble_eq_true rfl) (Nat.le_of_ble_eq_true rfl) e11 trivial ⟨(crf_R e12), trivial, trivial⟩ (tX11_change a0 p6.2 e13) ?_
        refine j_iconst (pc' := 46) dX11_lay_45 rfl ?_
        refine j_istore_n (i := 2) (lv' := [(0, vr a0), (1, vi a1), (2, vi 0)]) (pc' := 47) dX11_lay_46 rfl rfl (by decide) [1, 2, 0] rfl ?_
        exact tX11_lay_47   FU a0 a1 0 h13 ra1 ⟨by decide, by decide⟩ H
      · rw [if_pos c10] at H
        refine j_aload_n (i := 0) (pc' := 36) dX11_lay_35 rfl rfl 0 rfl ?_
        refine j_iconst (pc' := 37) dX11_lay_36 rfl ?_
        obtain ⟨u14, e14, H⟩ := bs H
        obtain ⟨p15, e15, H⟩ := bs H
        refine j_cVb (y := yX11_deny) (dY := 1) (vs := [vi 2]) (st := []) (q := a0) (pc' := 40) dX11_lay_37 rfl ymX11_deny yvX11_deny ml_X11_91 (by decide) rfl (Nat.le_of_ble_eq_true rfl) (Nat.le_of_ble_eq_true rfl) e14 (tX11_deny a0 2 p6.2 ⟨by decide, by decide⟩ e15) (fun r15 b15 z15 => ?_)
        obtain ⟨u16, e16, H⟩ := bs H
        obtain rfl := Option.some.inj H
        exact j_iret dX11_lay_40 r15 ⟨rfl, rfl, cbo_R e16⟩
    · rw [if_pos c7] at H
      refine j_sub (lv' := [(0, vr a0)]) [0] rfl ?_
      refine j_rc (rc2 := 0) (rs2 := 0) (by omega) (by omega) ?_
      exact tX11_lay_18   a0 p6.2  H
-- X11_measure
noncomputable def fX11_measure_9 (x0 : Nat) (h : Hp) : Option (Int × Hp) :=
  (cob h 10 x0).bind fun _ => (fX11_refuse x0 1 h).bind fun p2 => some (p2.1, p2.2)
theorem tX11_measure_9 {L : Nat} {xs : Nat → Int32} {l : Launch} {res : Int × Hp} (x0 : Nat) (h : Hp)  (H : fX11_measure_9 x0 h = some res) : J L xs l RX11 cX11_measure 6 false 5 (QI res) 0 0 9 [(0, vr x0)] [] h := by
  unfold fX11_measure_9 at H
  refine j_aload_n (i := 0) (pc' := 10) dX11_measure_9 rfl rfl 0 rfl ?_
  refine j_iconst (pc' := 11) dX11_measure_10 rfl ?_
  obtain ⟨u1, e1, H⟩ := bs H
  obtain ⟨p2, e2, H⟩ := bs H
  refine j_cVi (y := yX11_refuse) (dY := 1) (vs := [vi 1]) (st := []) (q := x0) (pc' := 14) dX11_measure_11 rfl ymX11_refuse yvX11_refuse ml_X11_105 (by decide) rfl (Nat.le_of_ble_eq_true rfl) (Nat.le_of_ble_eq_true rfl) e1 (tX11_refuse x0 1 h ⟨by decide, by decide⟩ e2) (fun r2 z2 => ?_)
  obtain rfl := Option.some.inj H
  exact j_iret dX11_measure_14 r2 ⟨rfl, rfl⟩
noncomputable def fX11_measure_102 (x2 : Int) (h : Hp) : Option (Int × Hp) :=
  some (x2, h)
theorem tX11_measure_102 {L : Nat} {xs : Nat → Int32} {l : Launch} {res : Int × Hp} (x2 : Int) (h : Hp) (rx2 : R32 x2) (H : fX11_measure_102 x2 h = some res) : J L xs l RX11 cX11_measure 6 false 5 (QI res) 0 0 102 [(2, vi x2)] [] h := by
  unfold fX11_measure_102 at H
  refine j_iload_n (i := 2) (pc' := 103) dX11_measure_102 rfl rfl 0 rfl ?_
  obtain rfl := Option.some.inj H
  exact j_iret dX11_measure_103 rx2 ⟨rfl, rfl⟩
noncomputable def fX11_measure_96 (k23 : Nat → Int → Int → Int → Hp → Option (Int × Hp)) (x0 : Nat) (x1 : Int) (x2 : Int) (x3 : Int) (h : Hp) : Option (Int × Hp) :=
  (c32 (x3 + 1)).bind fun _ => k23 x0 x1 x2 (x3 + 1) h
theorem tX11_measure_96 {L : Nat} {xs : Nat → Int32} {l : Launch} {res : Int × Hp} (k23 : Nat → Int → Int → Int → Hp → Option (Int × Hp)) (hk23 : ∀ (x0 : Nat) (x1 : Int) (x2 : Int) (x3 : Int) (h : Hp), R32 x1 → R32 x2 → R32 x3 → k23 x0 x1 x2 x3 h = some res → J L xs l RX11 cX11_measure 6 false 5 (QI res) 0 0 23 [(0, vr x0), (1, vi x1), (2, vi x2), (3, vi x3)] [] h) (x0 : Nat) (x1 : Int) (x2 : Int) (x3 : Int) (h : Hp) (rx1 : R32 x1) (rx2 : R32 x2) (rx3 : R32 x3) (H : fX11_measure_96 k23 x0 x1 x2 x3 h = some res) : J L xs l RX11 cX11_measure 6 false 5 (QI res) 0 0 96 [(0, vr x0), (1, vi x1), (2, vi x2), (3, vi x3)] [] h := by
  unfold fX11_measure_96 at H
  obtain ⟨u1, e1, H⟩ := bs H
  have r1 := c32_R e1
  refine j_iinc (k0 := 3) (lv' := [(0, vr x0), (1, vi x1), (2, vi x2), (3, vi (x3 + 1))]) (pc' := 99) dX11_measure_96 rfl rfl (by decide) [1, 2, 3, 0] rfl ?_
  refine j_goto (tgt := 23) dX11_measure_99 (by decide) ?_
  exact hk23 x0 x1 x2 (x3 + 1) h rx1 rx2 r1 H
noncomputable def fX11_measure_70 (k23 : Nat → Int → Int → Int → Hp → Option (Int × Hp)) (k37 : Nat → Int → Int → Int → Int → Hp → Option (Int × Hp)) (x0 : Nat) (x1 : Int) (x3 : Int) (x4 : Int) (x5 : Int) (s0 : Int) (s1 : Int) (h : Hp) : Option (Int × Hp) :=
  (c32 (s1 + s0)).bind fun _ => (getR h 10 x0 0).bind fun v2 => (cob h 6 v2).bind fun _ => (fX7_setWay v2 x3 x4 (min x5 10000) h).bind fun h4 => (c32 (x4 + 1)).bind fun _ => k37 x0 x1 (s1 + s0) x3 (x4 + 1) h4
theorem tX11_measure_70 {L : Nat} {xs : Nat → Int32} {l : Launch} {res : Int × Hp} (k23 : Nat → Int → Int → Int → Hp → Option (Int × Hp)) (k37 : Nat → Int → Int → Int → Int → Hp → Option (Int × Hp)) (hk23 : ∀ (x0 : Nat) (x1 : Int) (x2 : Int) (x3 : Int) (h : Hp), R32 x1 → R32 x2 → R32 x3 → k23 x0 x1 x2 x3 h = some res → J L xs l RX11 cX11_measure 6 false 5 (QI res) 0 0 23 [(0, vr x0), (1, vi x1), (2, vi x2), (3, vi x3)] [] h) (hk37 : ∀ (x0 : Nat) (x1 : Int) (x2 : Int) (x3 : Int) (x4 : Int) (h : Hp), R32 x1 → R32 x2 → R32 x3 → R32 x4 → k37 x0 x1 x2 x3 x4 h = some res → J L xs l RX11 cX11_measure 6 false 5 (QI res) 0 0 37 [(0, vr x0), (1, vi x1), (2, vi x2), (3, vi x3), (4, vi x4)] [] h) (x0 : Nat) (x1 : Int) (x3 : Int) (x4 : Int) (x5 : Int) (s0 : Int) (s1 : Int) (h : Hp) (rx1 : R32 x1) (rx3 : R32 x3) (rx4 : R32 x4) (rx5 : R32 x5) (rs0 : R32 s0) (rs1 : R32 s1) (H : fX11_measure_70 k23 k37 x0 x1 x3 x4 x5 s0 s1 h = some res) : J L xs l RX11 cX11_measure 6 false 5 (QI res) 0 0 70 [(0, vr x0), (1, vi x1), (3, vi x3), (4, vi x4), (5, vi x5)] [vi s0, vi s1] h := by
  unfold fX11_measure_70 at H
  refine j_iadd (pc' := 71) dX11_measure_70 rfl ?_
  obtain ⟨u1, e1, H⟩ := bs H
  have r1 := c32_R e1
  refine j_istore_n (i := 2) (lv' := [(0, vr x0), (1, vi x1), (2, vi (s1 + s0)), (3, vi x3), (4, vi x4), (5, vi x5)]) (pc' := 72) dX11_measure_71 rfl rfl (by decide) [1, 2, 0, 3, 4, 5] rfl ?_
  refine j_aload_n (i := 0) (pc' := 73) dX11_measure_72 rfl rfl 0 rfl ?_
  obtain ⟨v2, e2, H⟩ := bs H
  refine j_getR (pc' := 76) dX11_measure_73 rfl fl_X11_10 e2 (fun r2 => ?_)
  refine j_iload_n (i := 3) (pc' := 77) dX11_measure_76 rfl rfl 3 rfl ?_
  refine j_iload (pc' := 79) dX11_measure_77 rfl 4 rfl ?_
  refine j_iload (pc' := 81) dX11_measure_79 rfl 5 rfl ?_
  refine j_sipush (pc' := 84) dX11_measure_81 rfl (by decide +kernel) ?_
  refine j_mmin (pc' := 87) dX11_measure_84 rfl ml_X11_154 (by decide) (Nat.le_of_ble_eq_true rfl) rx5 ⟨by decide, by decide⟩ ?_
  obtain ⟨u3, e3, H⟩ := bs H
  obtain ⟨h4, e4, H⟩ := bs H
  refine j_cVv (y := yX7_setWay) (dY := 1) (vs := [vi x3, vi x4, vi (min x5 10000)]) (st := []) (q := v2) (pc' := 90) dX11_measure_87 rfl ymX7_setWay yvX7_setWay ml_X11_113 (by decide) rfl (Nat.le_of_ble_eq_true rfl) (Nat.le_of_ble_eq_true rfl) e3 (tX7_setWay v2 x3 x4 (min x5 10000) h rx3 rx4 (R32_min rx5 ⟨by decide, by decide⟩) e4) (fun z4 => ?_)
  obtain ⟨u5, e5, H⟩ := bs H
  have r5 := c32_R e5
  refine j_iinc (k0 := 4) (lv' := [(0, vr x0), (1, vi x1), (2, vi (s1 + s0)), (3, vi x3), (4, vi (x4 + 1)), (5, vi x5)]) (pc' := 93) dX11_measure_90 rfl rfl (by decide) [1, 2, 3, 4, 0, 5] rfl ?_
  refine j_goto (tgt := 37) dX11_measure_93 (by decide) ?_
  refine j_sub (lv' := [(0, vr x0), (1, vi x1), (2, vi (s1 + s0)), (3, vi x3), (4, vi (x4 + 1))]) [0, 1, 2, 3, 4] rfl ?_
  exact hk37 x0 x1 (s1 + s0) x3 (x4 + 1) h4 rx1 r1 rx3 r5 H
noncomputable def fX11_measure_37 (k23 : Nat → Int → Int → Int → Hp → Option (Int × Hp)) : Nat → Nat → Int → Int → Int → Int → Hp → Option (Int × Hp)
  | 0, _, _, _, _, _, _ => none
  | n + 1, x0, x1, x2, x3, x4, h => if x3 ≤ x4 then (fX11_measure_96 k23 x0 x1 x2 x3 h) else ((getR h 10 x0 0).bind fun v2 => (cob h 6 v2).bind fun _ => (fX7_gapOf v2 x3 x4 x1 h).bind fun p4 => if p4.1 ≤ 10000 then (fX11_measure_70 k23 (fX11_measure_37 k23 n) x0 x1 x3 x4 p4.1 0 x2 p4.2) else (fX11_measure_70 k23 (fX11_measure_37 k23 n) x0 x1 x3 x4 p4.1 1 x2 p4.2))
theorem tX11_measure_37 {L : Nat} {xs : Nat → Int32} {l : Launch} {res : Int × Hp} (k23 : Nat → Int → Int → Int → Hp → Option (Int × Hp)) (hk23 : ∀ (x0 : Nat) (x1 : Int) (x2 : Int) (x3 : Int) (h : Hp), R32 x1 → R32 x2 → R32 x3 → k23 x0 x1 x2 x3 h = some res → J L xs l RX11 cX11_measure 6 false 5 (QI res) 0 0 23 [(0, vr x0), (1, vi x1), (2, vi x2), (3, vi x3)] [] h) : ∀ (n : Nat) (x0 : Nat) (x1 : Int) (x2 : Int) (x3 : Int) (x4 : Int) (h : Hp), R32 x1 → R32 x2 → R32 x3 → R32 x4 → fX11_measure_37 k23 n x0 x1 x2 x3 x4 h = some res → J L xs l RX11 cX11_measure 6 false 5 (QI res) 0 0 37 [(0, vr x0), (1, vi x1), (2, vi x2), (3, vi x3), (4, vi x4)] [] h := by
  intro n
  induction n with
  | zero => intro x0 x1 x2 x3 x4 h rx1 rx2 rx3 rx4 H; cases H
  | succ n ih =>
    intro x0 x1 x2 x3 x4 h rx1 rx2 rx3 rx4 H
    rw [fX11_measure_37] at H
    refine j_iload (pc' := 39) dX11_measure_37 rfl 4 rfl ?_
    refine j_iload_n (i := 3) (pc' := 40) dX11_measure_39 rfl rfl 3 rfl ?_
    refine j_icmp_ge (tgt := 96) (pc' := 43) dX11_measure_40 (by decide) rfl rx4 rx3 (fun c1 => ?_) (fun c1 => ?_)
    · rw [if_pos c1] at H
      refine j_sub (lv' := [(0, vr x0), (1, vi x1), (2, vi x2), (3, vi x3)]) [0, 1, 2, 3] rfl ?_
      exact tX11_measure_96 _ hk23 x0 x1 x2 x3 h rx1 rx2 rx3 H
    · rw [if_neg c1] at H
      refine j_aload_n (i := 0) (pc' := 44) dX11_measure_43 rfl rfl 0 rfl ?_
      obtain ⟨v2, e2, H⟩ := bs H
      refine j_getR (pc' := 47) dX11_measure_44 rfl fl_X11_10 e2 (fun r2 => ?_)
      refine j_iload_n (i := 3) (pc' := 48) dX11_measure_47 rfl rfl 3 rfl ?_
      refine j_iload (pc' := 50) dX11_measure_48 rfl 4 rfl ?_
      refine j_iload_n (i := 1) (pc' := 51) dX11_measure_50 rfl rfl 1 rfl ?_
      obtain ⟨u3, e3, H⟩ := bs H
      obtain ⟨p4, e4, H⟩ := bs H
      refine j_cVi (y := yX7_gapOf) (dY := 1) (vs := [vi x3, vi x4, vi x1]) (st := []) (q := v2) (pc' := 54) dX11_measure_51 rfl ymX7_gapOf yvX7_gapOf ml_X11_150 (by decide) rfl (Nat.le_of_ble_eq_true rfl) (Nat.le_of_ble_eq_true rfl) e3 (tX7_gapOf v2 x3 x4 x1 h rx3 rx4 rx1 e4) (fun r4 z4 => ?_)
      refine j_istore (lv' := [(0, vr x0), (1, vi x1), (2, vi x2), (3, vi x3), (4, vi x4), (5, vi p4.1)]) (pc' := 56) dX11_measure_54 rfl (by decide) [1, 2, 3, 4, 5, 0] rfl ?_
      refine j_iload_n (i := 2) (pc' := 57) dX11_measure_56 rfl rfl 2 rfl ?_
      refine j_iload (pc' := 59) dX11_measure_57 rfl 5 rfl ?_
      refine j_sipush (pc' := 62) dX11_measure_59 rfl (by decide +kernel) ?_
      refine j_icmp_le (tgt := 69) (pc' := 65) dX11_measure_62 (by decide) rfl r4 ⟨by decide, by decide⟩ (fun c5 => ?_) (fun c5 => ?_)
      · rw [if_pos c5] at H
        refine j_iconst (pc' := 70) dX11_measure_69 rfl ?_
        refine j_sub (lv' := [(0, vr x0), (1, vi x1), (3, vi x3), (4, vi x4), (5, vi p4.1)]) [0, 1, 3, 4, 5] rfl ?_
        exact tX11_measure_70 _ _ hk23 ih x0 x1 x3 x4 p4.1 0 x2 p4.2 rx1 rx3 rx4 r4 ⟨by decide, by decide⟩ rx2 H
      · rw [if_neg c5] at H
        refine j_iconst (pc' := 66) dX11_measure_65 rfl ?_
        refine j_goto (tgt := 70) dX11_measure_66 (by decide) ?_
        refine j_sub (lv' := [(0, vr x0), (1, vi x1), (3, vi x3), (4, vi x4), (5, vi p4.1)]) [0, 1, 3, 4, 5] rfl ?_
        exact tX11_measure_70 _ _ hk23 ih x0 x1 x3 x4 p4.1 1 x2 p4.2 rx1 rx3 rx4 r4 ⟨by decide, by decide⟩ rx2 H
noncomputable def fX11_measure_23 : Nat → Nat → Int → Int → Int → Hp → Option (Int × Hp)
  | 0, _, _, _, _, _ => none
  | n + 1, x0, x1, x2, x3, h => (getR h 10 x0 0).bind fun v1 => (getI h 6 v1 0).bind fun v2 => if v2 ≤ x3 then (fX11_measure_102 x2 h) else (fX11_measure_37 (fX11_measure_23 n) FU x0 x1 x2 x3 0 h)
theorem tX11_measure_23 {L : Nat} {xs : Nat → Int32} {l : Launch} {res : Int × Hp} : ∀ (n : Nat) (x0 : Nat) (x1 : Int) (x2 : Int) (x3 : Int) (h : Hp), R32 x1 → R32 x2 → R32 x3 → fX11_measure_23 n x0 x1 x2 x3 h = some res → J L xs l RX11 cX11_measure 6 false 5 (QI res) 0 0 23 [(0, vr x0), (1, vi x1), (2, vi x2), (3, vi x3)] [] h := by
  intro n
  induction n with
  | zero => intro x0 x1 x2 x3 h rx1 rx2 rx3 H; cases H
  | succ n ih =>
    intro x0 x1 x2 x3 h rx1 rx2 rx3 H
    rw [fX11_measure_23] at H
    refine j_iload_n (i := 3) (pc' := 24) dX11_measure_23 rfl rfl 3 rfl ?_
    refine j_aload_n (i := 0) (pc' := 25) dX11_measure_24 rfl rfl 0 rfl ?_
    obtain ⟨v1, e1, H⟩ := bs H
    refine j_getR (pc' := 28) dX11_measure_25 rfl fl_X11_10 e1 (fun r1 => ?_)
    obtain ⟨v2, e2, H⟩ := bs H
    refine j_getI (pc' := 31) dX11_measure_28 rfl fl_X11_147 e2 (fun r2 => ?_)
    refine j_icmp_ge (tgt := 102) (pc' := 34) dX11_measure_31 (by decide) rfl rx3 r2 (fun c3 => ?_) (fun c3 => ?_)
    · rw [if_pos c3] at H
      refine j_sub (lv' := [(2, vi x2)]) [2] rfl ?_
      exact tX11_measure_102   x2 h rx2 H
    · rw [if_neg c3] at H
      refine j_iconst (pc' := 35) dX11_measure_34 rfl ?_
      refine j_istore (lv' := [(0, vr x0), (1, vi x1), (2, vi x2), (3, vi x3), (4, vi 0)]) (pc' := 37) dX11_measure_35 rfl (by decide) [1, 2, 3, 4, 0] rfl ?_
      exact tX11_measure_37 _ ih FU x0 x1 x2 x3 0 h rx1 rx2 rx3 ⟨by decide, by decide⟩ H
noncomputable def fX11_measure (a0 : Nat) (a1 : Int) (h : Hp) : Option (Int × Hp) :=
  if a1 < 0 then (fX11_measure_9 a0 h) else (if a1 ≤ 2 then ((cob h 10 a0).bind fun _ => (crf h a0).bind fun _ => (fX11_change a0 h).bind fun h5 => fX11_measure_23 FU a0 a1 0 1 h5) else (fX11_measure_9 a0 h))
theorem tX11_measure {L : Nat} {xs : Nat → Int32} {l : Launch} {res : Int × Hp} (a0 : Nat) (a1 : Int) (h : Hp) (ra1 : R32 a1) (H : fX11_measure a0 a1 h = some res) : J L xs l RX11 cX11_measure 6 false 5 (QI res) 8 515 0 (alv 0 [vr a0, vi a1]) [] h := by
  unfold fX11_measure at H
  show J L xs l RX11 cX11_measure 6 false 5 (QI res) 8 515 0 [(0, vr a0), (1, vi a1)] [] h
  refine j_iload_n (i := 1) (pc' := 1) dX11_measure_0 rfl rfl 1 rfl ?_
  refine j_if_lt (tgt := 9) (pc' := 4) dX11_measure_1 (by decide) rfl ra1 (fun c1 => ?_) (fun c1 => ?_)
  · rw [if_pos c1] at H
    refine j_sub (lv' := [(0, vr a0)]) [0] rfl ?_
    refine j_rc (rc2 := 0) (rs2 := 0) (by omega) (by omega) ?_
    exact tX11_measure_9   a0 h  H
  · rw [if_neg c1] at H
    refine j_iload_n (i := 1) (pc' := 5) dX11_measure_4 rfl rfl 1 rfl ?_
    refine j_iconst (pc' := 6) dX11_measure_5 rfl ?_
    refine j_icmp_le (tgt := 15) (pc' := 9) dX11_measure_6 (by decide) rfl ra1 ⟨by decide, by decide⟩ (fun c2 => ?_) (fun c2 => ?_)
    · rw [if_pos c2] at H
      refine j_aload_n (i := 0) (pc' := 16) dX11_measure_15 rfl rfl 0 rfl ?_
      obtain ⟨u3, e3, H⟩ := bs H
      obtain ⟨u4, e4, H⟩ := bs H
      obtain ⟨h5, e5, H⟩ := bs H
      refine j_aVv (y := yX11_change) (dY := 4) (vs := []) (st := []) (q := a0) (mc := 8) (ms := 515) (rc := 0) (rs := 0) (pc' := 19) dX11_measure_16 rfl ymX11_change yvX11_change ml_X11_95 (by decide) rfl (Nat.le_of_ble_eq_true rfl) (Nat.le_of_ble_eq_true rfl) e3 trivial ⟨(crf_R e4), trivial, trivial⟩ (tX11_change a0 h e5) ?_
      refine j_iconst (pc' := 20) dX11_measure_19 rfl ?_
      refine j_istore_n (i := 2) (lv' := [(0, vr a0), (1, vi a1), (2, vi 0)]) (pc' := 21) dX11_measure_20 rfl rfl (by decide) [1, 2, 0] rfl ?_
      refine j_iconst (pc' := 22) dX11_measure_21 rfl ?_
      refine j_istore_n (i := 3) (lv' := [(0, vr a0), (1, vi a1), (2, vi 0), (3, vi 1)]) (pc' := 23) dX11_measure_22 rfl rfl (by decide) [1, 2, 3, 0] rfl ?_
      exact tX11_measure_23   FU a0 a1 0 1 h5 ra1 ⟨by decide, by decide⟩ ⟨by decide, by decide⟩ H
    · rw [if_neg c2] at H
      refine j_sub (lv' := [(0, vr a0)]) [0] rfl ?_
      refine j_rc (rc2 := 0) (rs2 := 0) (by omega) (by omega) ?_
      exact tX11_measure_9   a0 h  H
-- X11_quarrel
noncomputable def fX11_quarrel_20 (x0 : Nat) (h : Hp) : Option (Int × Hp) :=
  (cob h 10 x0).bind fun _ => (fX11_deny x0 1 h).bind fun p2 => (cbo p2.1).bind fun _ => some (p2.1, p2.2)
theorem tX11_quarrel_20 {L : Nat} {xs : Nat → Int32} {l : Launch} {res : Int × Hp} (x0 : Nat) (h : Hp)  (H : fX11_quarrel_20 x0 h = some res) : J L xs l RX11 cX11_quarrel 5 false 5 (QB res) 0 0 20 [(0, vr x0)] [] h := by
  unfold fX11_quarrel_20 at H
  refine j_aload_n (i := 0) (pc' := 21) dX11_quarrel_20 rfl rfl 0 rfl ?_
  refine j_iconst (pc' := 22) dX11_quarrel_21 rfl ?_
  obtain ⟨u1, e1, H⟩ := bs H
  obtain ⟨p2, e2, H⟩ := bs H
  refine j_cVb (y := yX11_deny) (dY := 1) (vs := [vi 1]) (st := []) (q := x0) (pc' := 25) dX11_quarrel_22 rfl ymX11_deny yvX11_deny ml_X11_91 (by decide) rfl (Nat.le_of_ble_eq_true rfl) (Nat.le_of_ble_eq_true rfl) e1 (tX11_deny x0 1 h ⟨by decide, by decide⟩ e2) (fun r2 b2 z2 => ?_)
  obtain ⟨u3, e3, H⟩ := bs H
  obtain rfl := Option.some.inj H
  exact j_iret dX11_quarrel_25 r2 ⟨rfl, rfl, cbo_R e3⟩
noncomputable def fX11_quarrel_47 (s0 : Int) (s1 : Int) (s2 : Int) (s3 : Int) (s4 : Nat) (h : Hp) : Option (Int × Hp) :=
  (cob h 6 s4).bind fun _ => (fX7_setQuarrel s4 s3 s2 s1 s0 h).bind fun h2 => some (1, h2)
theorem tX11_quarrel_47 {L : Nat} {xs : Nat → Int32} {l : Launch} {res : Int × Hp} (s0 : Int) (s1 : Int) (s2 : Int) (s3 : Int) (s4 : Nat) (h : Hp) (rs0 : R32 s0) (rs1 : R32 s1) (rs2 : R32 s2) (rs3 : R32 s3) (H : fX11_quarrel_47 s0 s1 s2 s3 s4 h = some res) : J L xs l RX11 cX11_quarrel 5 false 5 (QB res) 0 0 47 [] [vi s0, vi s1, vi s2, vi s3, vr s4] h := by
  unfold fX11_quarrel_47 at H
  obtain ⟨u1, e1, H⟩ := bs H
  obtain ⟨h2, e2, H⟩ := bs H
  refine j_cVv (y := yX7_setQuarrel) (dY := 1) (vs := [vi s3, vi s2, vi s1, vi s0]) (st := []) (q := s4) (pc' := 50) dX11_quarrel_47 rfl ymX7_setQuarrel yvX7_setQuarrel ml_X11_159 (by decide) rfl (Nat.le_of_ble_eq_true rfl) (Nat.le_of_ble_eq_true rfl) e1 (tX7_setQuarrel s4 s3 s2 s1 s0 h rs3 rs2 rs1 rs0 e2) (fun z2 => ?_)
  refine j_iconst (pc' := 51) dX11_quarrel_50 rfl ?_
  obtain rfl := Option.some.inj H
  exact j_iret dX11_quarrel_51 ⟨by decide, by decide⟩ ⟨rfl, rfl, Or.inr rfl⟩
noncomputable def fX11_quarrel (a0 : Nat) (a1 : Int) (a2 : Int) (a3 : Int) (a4 : Int) (h : Hp) : Option (Int × Hp) :=
  (cob h 10 a0).bind fun _ => (fX11_isCouple a0 a1 a2 h).bind fun p2 => if p2.1 = 0 then (fX11_quarrel_20 a0 p2.2) else (if a3 < 0 then (fX11_quarrel_20 a0 p2.2) else (if a3 ≤ 1000 then ((cob p2.2 10 a0).bind fun _ => (crf p2.2 a0).bind fun _ => (fX11_change a0 p2.2).bind fun h8 => (getR h8 10 a0 0).bind fun v9 => if a4 = 0 then (fX11_quarrel_47 0 a3 a2 a1 v9 h8) else (fX11_quarrel_47 1 a3 a2 a1 v9 h8)) else (fX11_quarrel_20 a0 p2.2)))
theorem tX11_quarrel {L : Nat} {xs : Nat → Int32} {l : Launch} {res : Int × Hp} (a0 : Nat) (a1 : Int) (a2 : Int) (a3 : Int) (a4 : Int) (h : Hp) (ra1 : R32 a1) (ra2 : R32 a2) (ra3 : R32 a3) (ra4 : R32 a4) (H : fX11_quarrel a0 a1 a2 a3 a4 h = some res) : J L xs l RX11 cX11_quarrel 5 false 5 (QB res) 8 515 0 (alv 0 [vr a0, vi a1, vi a2, vi a3, vi a4]) [] h := by
  unfold fX11_quarrel at H
  show J L xs l RX11 cX11_quarrel 5 false 5 (QB res) 8 515 0 [(0, vr a0), (1, vi a1), (2, vi a2), (3, vi a3), (4, vi a4)] [] h
  refine j_aload_n (i := 0) (pc' := 1) dX11_quarrel_0 rfl rfl 0 rfl ?_
  refine j_iload_n (i := 1) (pc' := 2) dX11_quarrel_1 rfl rfl 1 rfl ?_
  refine j_iload_n (i := 2) (pc' := 3) dX11_quarrel_2 rfl rfl 2 rfl ?_
  obtain ⟨u1, e1, H⟩ := bs H
  obtain ⟨p2, e2, H⟩ := bs H
  refine j_cVb (y := yX11_isCouple) (dY := 2) (vs := [vi a1, vi a2]) (st := []) (q := a0) (pc' := 6) dX11_quarrel_3 rfl ymX11_isCouple yvX11_isCouple ml_X11_101 (by decide) rfl (Nat.le_of_ble_eq_true rfl) (Nat.le_of_ble_eq_true rfl) e1 (tX11_isCouple a0 a1 a2 h ra1 ra2 e2) (fun r2 b2 z2 => ?_)
  refine j_if_eq (tgt := 20) (pc' := 9) dX11_quarrel_6 (by decide) rfl r2 (fun c3 => ?_) (fun c3 => ?_)
  · rw [if_pos c3] at H
    refine j_sub (lv' := [(0, vr a0)]) [0] rfl ?_
    refine j_rc (rc2 := 0) (rs2 := 0) (by omega) (by omega) ?_
    exact tX11_quarrel_20   a0 p2.2  H
  · rw [if_neg c3] at H
    refine j_iload_n (i := 3) (pc' := 10) dX11_quarrel_9 rfl rfl 3 rfl ?_
    refine j_if_lt (tgt := 20) (pc' := 13) dX11_quarrel_10 (by decide) rfl ra3 (fun c4 => ?_) (fun c4 => ?_)
    · rw [if_pos c4] at H
      refine j_sub (lv' := [(0, vr a0)]) [0] rfl ?_
      refine j_rc (rc2 := 0) (rs2 := 0) (by omega) (by omega) ?_
      exact tX11_quarrel_20   a0 p2.2  H
    · rw [if_neg c4] at H
      refine j_iload_n (i := 3) (pc' := 14) dX11_quarrel_13 rfl rfl 3 rfl ?_
      refine j_sipush (pc' := 17) dX11_quarrel_14 rfl (by decide +kernel) ?_
      refine j_icmp_le (tgt := 26) (pc' := 20) dX11_quarrel_17 (by decide) rfl ra3 ⟨by decide, by decide⟩ (fun c5 => ?_) (fun c5 => ?_)
      · rw [if_pos c5] at H
        refine j_aload_n (i := 0) (pc' := 27) dX11_quarrel_26 rfl rfl 0 rfl ?_
        obtain ⟨u6, e6, H⟩ := bs H
        obtain ⟨u7, e7, H⟩ := bs H
        obtain ⟨h8, e8, H⟩ := bs H
        refine j_aVv (y := yX11_change) (dY := 4) (vs := []) (st := []) (q := a0) (mc := 8) (ms := 515) (rc := 0) (rs := 0) (pc' := 30) dX11_quarrel_27 rfl ymX11_change yvX11_change ml_X11_95 (by decide) rfl (Nat.le_of_ble_eq_true rfl) (Nat.le_of_ble_eq_true rfl) e6 trivial ⟨(crf_R e7), trivial, trivial, trivial, trivial, trivial⟩ (tX11_change a0 p2.2 e8) ?_
        refine j_aload_n (i := 0) (pc' := 31) dX11_quarrel_30 rfl rfl 0 rfl ?_
        obtain ⟨v9, e9, H⟩ := bs H
        refine j_getR (pc' := 34) dX11_quarrel_31 rfl fl_X11_10 e9 (fun r9 => ?_)
        refine j_iload_n (i := 1) (pc' := 35) dX11_quarrel_34 rfl rfl 1 rfl ?_
        refine j_iload_n (i := 2) (pc' := 36) dX11_quarrel_35 rfl rfl 2 rfl ?_
        refine j_iload_n (i := 3) (pc' := 37) dX11_quarrel_36 rfl rfl 3 rfl ?_
        refine j_iload (pc' := 39) dX11_quarrel_37 rfl 4 rfl ?_
        refine j_if_eq (tgt := 46) (pc' := 42) dX11_quarrel_39 (by decide) rfl ra4 (fun c10 => ?_) (fun c10 => ?_)
        · rw [if_pos c10] at H
          refine j_iconst (pc' := 47) dX11_quarrel_46 rfl ?_
          refine j_sub (lv' := []) [] rfl ?_
          exact tX11_quarrel_47   0 a3 a2 a1 v9 h8 ⟨by decide, by decide⟩ ra3 ra2 ra1 H
        · rw [if_neg c10] at H
          refine j_iconst (pc' := 43) dX11_quarrel_42 rfl ?_
          refine j_goto (tgt := 47) dX11_quarrel_43 (by decide) ?_
          refine j_sub (lv' := []) [] rfl ?_
          exact tX11_quarrel_47   1 a3 a2 a1 v9 h8 ⟨by decide, by decide⟩ ra3 ra2 ra1 H
      · rw [if_neg c5] at H
        refine j_sub (lv' := [(0, vr a0)]) [0] rfl ?_
        refine j_rc (rc2 := 0) (rs2 := 0) (by omega) (by omega) ?_
        exact tX11_quarrel_20   a0 p2.2  H
-- X11_put
noncomputable def fX11_put_26 (x0 : Nat) (h : Hp) : Option (Int × Hp) :=
  (cob h 10 x0).bind fun _ => (fX11_refuse x0 1 h).bind fun p2 => some (p2.1, p2.2)
theorem tX11_put_26 {L : Nat} {xs : Nat → Int32} {l : Launch} {res : Int × Hp} (x0 : Nat) (h : Hp)  (H : fX11_put_26 x0 h = some res) : J L xs l RX11 cX11_put 3 false 5 (QI res) 0 0 26 [(0, vr x0)] [] h := by
  unfold fX11_put_26 at H
  refine j_aload_n (i := 0) (pc' := 27) dX11_put_26 rfl rfl 0 rfl ?_
  refine j_iconst (pc' := 28) dX11_put_27 rfl ?_
  obtain ⟨u1, e1, H⟩ := bs H
  obtain ⟨p2, e2, H⟩ := bs H
  refine j_cVi (y := yX11_refuse) (dY := 1) (vs := [vi 1]) (st := []) (q := x0) (pc' := 31) dX11_put_28 rfl ymX11_refuse yvX11_refuse ml_X11_105 (by decide) rfl (Nat.le_of_ble_eq_true rfl) (Nat.le_of_ble_eq_true rfl) e1 (tX11_refuse x0 1 h ⟨by decide, by decide⟩ e2) (fun r2 z2 => ?_)
  obtain rfl := Option.some.inj H
  exact j_iret dX11_put_31 r2 ⟨rfl, rfl⟩
noncomputable def fX11_put (a0 : Nat) (a1 : Int) (a2 : Int) (h : Hp) : Option (Int × Hp) :=
  (cob h 10 a0).bind fun _ => (fX11_isThing a0 a1 h).bind fun p2 => if p2.1 = 0 then (fX11_put_26 a0 p2.2) else (if a2 < 0 then (fX11_put_26 a0 p2.2) else ((getR p2.2 10 a0 0).bind fun v5 => (getR p2.2 6 v5 5).bind fun v6 => (getI p2.2 5 v6 1).bind fun v7 => if a2 ≤ v7 then ((cob p2.2 10 a0).bind fun _ => (crf p2.2 a0).bind fun _ => (fX11_change a0 p2.2).bind fun h11 => (getR h11 10 a0 0).bind fun v12 => (getR h11 6 v12 5).bind fun v13 => (getR h11 5 v13 2).bind fun v14 => (ast h11 0 v14 a1 a2).bind fun h15 => (getR h15 10 a0 0).bind fun v16 => (getR h15 6 v16 5).bind fun v17 => (cob h15 5 v17).bind fun _ => (fX6_renumber v17 h15).bind fun h19 => (getR h19 10 a0 0).bind fun v20 => (getR h19 6 v20 5).bind fun v21 => (getI h19 5 v21 1).bind fun v22 => some (v22, h19)) else (fX11_put_26 a0 p2.2)))
theorem tX11_put {L : Nat} {xs : Nat → Int32} {l : Launch} {res : Int × Hp} (a0 : Nat) (a1 : Int) (a2 : Int) (h : Hp) (ra1 : R32 a1) (ra2 : R32 a2) (H : fX11_put a0 a1 a2 h = some res) : J L xs l RX11 cX11_put 3 false 5 (QI res) 8 515 0 (alv 0 [vr a0, vi a1, vi a2]) [] h := by
  unfold fX11_put at H
  show J L xs l RX11 cX11_put 3 false 5 (QI res) 8 515 0 [(0, vr a0), (1, vi a1), (2, vi a2)] [] h
  refine j_aload_n (i := 0) (pc' := 1) dX11_put_0 rfl rfl 0 rfl ?_
  refine j_iload_n (i := 1) (pc' := 2) dX11_put_1 rfl rfl 1 rfl ?_
  obtain ⟨u1, e1, H⟩ := bs H
  obtain ⟨p2, e2, H⟩ := bs H
  refine j_cVb (y := yX11_isThing) (dY := 1) (vs := [vi a1]) (st := []) (q := a0) (pc' := 5) dX11_put_2 rfl ymX11_isThing yvX11_isThing ml_X11_131 (by decide) rfl (Nat.le_of_ble_eq_true rfl) (Nat.le_of_ble_eq_true rfl) e1 (tX11_isThing a0 a1 h ra1 e2) (fun r2 b2 z2 => ?_)
  refine j_if_eq (tgt := 26) (pc' := 8) dX11_put_5 (by decide) rfl r2 (fun c3 => ?_) (fun c3 => ?_)
  · rw [if_pos c3] at H
    refine j_sub (lv' := [(0, vr a0)]) [0] rfl ?_
    refine j_rc (rc2 := 0) (rs2 := 0) (by omega) (by omega) ?_
    exact tX11_put_26   a0 p2.2  H
  · rw [if_neg c3] at H
    refine j_iload_n (i := 2) (pc' := 9) dX11_put_8 rfl rfl 2 rfl ?_
    refine j_if_lt (tgt := 26) (pc' := 12) dX11_put_9 (by decide) rfl ra2 (fun c4 => ?_) (fun c4 => ?_)
    · rw [if_pos c4] at H
      refine j_sub (lv' := [(0, vr a0)]) [0] rfl ?_
      refine j_rc (rc2 := 0) (rs2 := 0) (by omega) (by omega) ?_
      exact tX11_put_26   a0 p2.2  H
    · rw [if_neg c4] at H
      refine j_iload_n (i := 2) (pc' := 13) dX11_put_12 rfl rfl 2 rfl ?_
      refine j_aload_n (i := 0) (pc' := 14) dX11_put_13 rfl rfl 0 rfl ?_
      obtain ⟨v5, e5, H⟩ := bs H
      refine j_getR (pc' := 17) dX11_put_14 rfl fl_X11_10 e5 (fun r5 => ?_)
      obtain ⟨v6, e6, H⟩ := bs H
      refine j_getR (pc' := 20) dX11_put_17 rfl fl_X11_163 e6 (fun r6 => ?_)
      obtain ⟨v7, e7, H⟩ := bs H
      refine j_getI (pc' := 23) dX11_put_20 rfl fl_X11_166 e7 (fun r7 => ?_)
      refine j_icmp_le (tgt := 32) (pc' := 26) dX11_put_23 (by decide) rfl ra2 r7 (fun c8 => ?_) (fun c8 => ?_)
      · rw [if_pos c8] at H
        refine j_aload_n (i := 0) (pc' := 33) dX11_put_32 rfl rfl 0 rfl ?_
        obtain ⟨u9, e9, H⟩ := bs H
        obtain ⟨u10, e10, H⟩ := bs H
        obtain ⟨h11, e11, H⟩ := bs H
        refine j_aVv (y := yX11_change) (dY := 4) (vs := []) (st := []) (q := a0) (mc := 8) (ms := 515) (rc := 0) (rs := 0) (pc' := 36) dX11_put_33 rfl ymX11_change yvX11_change ml_X11_95 (by decide) rfl (Nat.le_of_ble_eq_true rfl) (Nat.le_of_ble_eq_true rfl) e9 trivial ⟨(crf_R e10), trivial, trivial, trivial⟩ (tX11_change a0 p2.2 e11) ?_
        refine j_aload_n (i := 0) (pc' := 37) dX11_put_36 rfl rfl 0 rfl ?_
        obtain ⟨v12, e12, H⟩ := bs H
        refine j_getR (pc' := 40) dX11_put_37 rfl fl_X11_10 e12 (fun r12 => ?_)
        obtain ⟨v13, e13, H⟩ := bs H
        refine j_getR (pc' := 43) dX11_put_40 rfl fl_X11_163 e13 (fun r13 => ?_)
        obtain ⟨v14, e14, H⟩ := bs H
        refine j_getR (pc' := 46) dX11_put_43 rfl fl_X11_169 e14 (fun r14 => ?_)
        refine j_iload_n (i := 1) (pc' := 47) dX11_put_46 rfl rfl 1 rfl ?_
        refine j_iload_n (i := 2) (pc' := 48) dX11_put_47 rfl rfl 2 rfl ?_
        obtain ⟨h15, e15, H⟩ := bs H
        refine j_iast (pc' := 49) dX11_put_48 rfl ra2 e15 ?_
        refine j_aload_n (i := 0) (pc' := 50) dX11_put_49 rfl rfl 0 rfl ?_
        obtain ⟨v16, e16, H⟩ := bs H
        refine j_getR (pc' := 53) dX11_put_50 rfl fl_X11_10 e16 (fun r16 => ?_)
        obtain ⟨v17, e17, H⟩ := bs H
        refine j_getR (pc' := 56) dX11_put_53 rfl fl_X11_163 e17 (fun r17 => ?_)
        obtain ⟨u18, e18, H⟩ := bs H
        obtain ⟨h19, e19, H⟩ := bs H
        refine j_cVv (y := yX6_renumber) (dY := 2) (vs := []) (st := []) (q := v17) (pc' := 59) dX11_put_56 rfl ymX6_renumber yvX6_renumber ml_X11_172 (by decide) rfl (Nat.le_of_ble_eq_true rfl) (Nat.le_of_ble_eq_true rfl) e18 (tX6_renumber v17 h15 e19) (fun z19 => ?_)
        refine j_aload_n (i := 0) (pc' := 60) dX11_put_59 rfl rfl 0 rfl ?_
        obtain ⟨v20, e20, H⟩ := bs H
        refine j_getR (pc' := 63) dX11_put_60 rfl fl_X11_10 e20 (fun r20 => ?_)
        obtain ⟨v21, e21, H⟩ := bs H
        refine j_getR (pc' := 66) dX11_put_63 rfl fl_X11_163 e21 (fun r21 => ?_)
        obtain ⟨v22, e22, H⟩ := bs H
        refine j_getI (pc' := 69) dX11_put_66 rfl fl_X11_166 e22 (fun r22 => ?_)
        obtain rfl := Option.some.inj H
        exact j_iret dX11_put_69 r22 ⟨rfl, rfl⟩
      · rw [if_neg c8] at H
        refine j_sub (lv' := [(0, vr a0)]) [0] rfl ?_
        refine j_rc (rc2 := 0) (rs2 := 0) (by omega) (by omega) ?_
        exact tX11_put_26   a0 p2.2  H
-- X11_count
noncomputable def fX11_count (a0 : Nat) (a1 : Int) (h : Hp) : Option (Int × Hp) :=
  (putV h 10 a0 11 (vi 0)).bind fun h1 => if a1 = 0 then ((getR h1 10 a0 0).bind fun v3 => (getI h1 6 v3 0).bind fun v4 => some (v4, h1)) else if a1 = 1 then ((getR h1 10 a0 0).bind fun v6 => (getR h1 6 v6 5).bind fun v7 => (getI h1 5 v7 1).bind fun v8 => some (v8, h1)) else if a1 = 2 then ((getR h1 10 a0 1).bind fun v10 => (getI h1 0 v10 0).bind fun v11 => some (v11, h1)) else if a1 = 3 then ((getR h1 10 a0 3).bind fun v13 => (getI h1 9 v13 0).bind fun v14 => some (v14, h1)) else if a1 = 4 then ((getR h1 10 a0 5).bind fun v16 => (getI h1 5 v16 0).bind fun v17 => some (v17, h1)) else if a1 = 5 then ((getR h1 10 a0 2).bind fun v19 => (getI h1 8 v19 1).bind fun v20 => some (v20, h1)) else ((cob h1 10 a0).bind fun _ => (fX11_refuse a0 1 h1).bind fun p22 => some (p22.1, p22.2))
theorem tX11_count {L : Nat} {xs : Nat → Int32} {l : Launch} {res : Int × Hp} (a0 : Nat) (a1 : Int) (h : Hp) (ra1 : R32 a1) (H : fX11_count a0 a1 h = some res) : J L xs l RX11 cX11_count 2 false 2 (QI res) 0 0 0 (alv 0 [vr a0, vi a1]) [] h := by
  unfold fX11_count at H
  show J L xs l RX11 cX11_count 2 false 2 (QI res) 0 0 0 [(0, vr a0), (1, vi a1)] [] h
  refine j_aload_n (i := 0) (pc' := 1) dX11_count_0 rfl rfl 0 rfl ?_
  refine j_iconst (pc' := 2) dX11_count_1 rfl ?_
  obtain ⟨h1, e1, H⟩ := bs H
  refine j_putV (pc' := 5) dX11_count_2 rfl fp_X11_83 tI ⟨by decide, by decide⟩ e1 ?_
  refine j_iload_n (i := 1) (pc' := 6) dX11_count_5 rfl rfl 1 rfl ?_
  by_cases c2 : a1 = 0
  · rw [if_pos c2] at H
    refine j_tabIn (tgt := 44) (off := 38) dX11_count_6 ra1 (by omega) (by omega) (by rw [c2]; rfl) (by decide) ?_
    refine j_aload_n (i := 0) (pc' := 45) dX11_count_44 rfl rfl 0 rfl ?_
    obtain ⟨v3, e3, H⟩ := bs H
    refine j_getR (pc' := 48) dX11_count_45 rfl fl_X11_10 e3 (fun r3 => ?_)
    obtain ⟨v4, e4, H⟩ := bs H
    refine j_getI (pc' := 51) dX11_count_48 rfl fl_X11_147 e4 (fun r4 => ?_)
    obtain rfl := Option.some.inj H
    exact j_iret dX11_count_51 r4 ⟨rfl, rfl⟩
  rw [if_neg c2] at H
  by_cases c5 : a1 = 1
  · rw [if_pos c5] at H
    refine j_tabIn (tgt := 52) (off := 46) dX11_count_6 ra1 (by omega) (by omega) (by rw [c5]; rfl) (by decide) ?_
    refine j_aload_n (i := 0) (pc' := 53) dX11_count_52 rfl rfl 0 rfl ?_
    obtain ⟨v6, e6, H⟩ := bs H
    refine j_getR (pc' := 56) dX11_count_53 rfl fl_X11_10 e6 (fun r6 => ?_)
    obtain ⟨v7, e7, H⟩ := bs H
    refine j_getR (pc' := 59) dX11_count_56 rfl fl_X11_163 e7 (fun r7 => ?_)
    obtain ⟨v8, e8, H⟩ := bs H
    refine j_getI (pc' := 62) dX11_count_59 rfl fl_X11_166 e8 (fun r8 => ?_)
    obtain rfl := Option.some.inj H
    exact j_iret dX11_count_62 r8 ⟨rfl, rfl⟩
  rw [if_neg c5] at H
  by_cases c9 : a1 = 2
  · rw [if_pos c9] at H
    refine j_tabIn (tgt := 63) (off := 57) dX11_count_6 ra1 (by omega) (by omega) (by rw [c9]; rfl) (by decide) ?_
    refine j_aload_n (i := 0) (pc' := 64) dX11_count_63 rfl rfl 0 rfl ?_
    obtain ⟨v10, e10, H⟩ := bs H
    refine j_getR (pc' := 67) dX11_count_64 rfl fl_X11_19 e10 (fun r10 => ?_)
    obtain ⟨v11, e11, H⟩ := bs H
    refine j_getI (pc' := 70) dX11_count_67 rfl fl_X11_175 e11 (fun r11 => ?_)
    obtain rfl := Option.some.inj H
    exact j_iret dX11_count_70 r11 ⟨rfl, rfl⟩
  rw [if_neg c9] at H
  by_cases c12 : a1 = 3
  · rw [if_pos c12] at H
    refine j_tabIn (tgt := 71) (off := 65) dX11_count_6 ra1 (by omega) (by omega) (by rw [c12]; rfl) (by decide) ?_
    refine j_aload_n (i := 0) (pc' := 72) dX11_count_71 rfl rfl 0 rfl ?_
    obtain ⟨v13, e13, H⟩ := bs H
    refine j_getR (pc' := 75) dX11_count_72 rfl fl_X11_33 e13 (fun r13 => ?_)
    obtain ⟨v14, e14, H⟩ := bs H
    refine j_getI (pc' := 78) dX11_count_75 rfl fl_X11_176 e14 (fun r14 => ?_)
    obtain rfl := Option.some.inj H
    exact j_iret dX11_count_78 r14 ⟨rfl, rfl⟩
  rw [if_neg c12] at H
  by_cases c15 : a1 = 4
  · rw [if_pos c15] at H
    refine j_tabIn (tgt := 79) (off := 73) dX11_count_6 ra1 (by omega) (by omega) (by rw [c15]; rfl) (by decide) ?_
    refine j_aload_n (i := 0) (pc' := 80) dX11_count_79 rfl rfl 0 rfl ?_
    obtain ⟨v16, e16, H⟩ := bs H
    refine j_getR (pc' := 83) dX11_count_80 rfl fl_X11_44 e16 (fun r16 => ?_)
    obtain ⟨v17, e17, H⟩ := bs H
    refine j_getI (pc' := 86) dX11_count_83 rfl fl_X11_177 e17 (fun r17 => ?_)
    obtain rfl := Option.some.inj H
    exact j_iret dX11_count_86 r17 ⟨rfl, rfl⟩
  rw [if_neg c15] at H
  by_cases c18 : a1 = 5
  · rw [if_pos c18] at H
    refine j_tabIn (tgt := 87) (off := 81) dX11_count_6 ra1 (by omega) (by omega) (by rw [c18]; rfl) (by decide) ?_
    refine j_aload_n (i := 0) (pc' := 88) dX11_count_87 rfl rfl 0 rfl ?_
    obtain ⟨v19, e19, H⟩ := bs H
    refine j_getR (pc' := 91) dX11_count_88 rfl fl_X11_26 e19 (fun r19 => ?_)
    obtain ⟨v20, e20, H⟩ := bs H
    refine j_getI (pc' := 94) dX11_count_91 rfl fl_X11_121 e20 (fun r20 => ?_)
    obtain rfl := Option.some.inj H
    exact j_iret dX11_count_94 r20 ⟨rfl, rfl⟩
  rw [if_neg c18] at H
  refine j_tabOut (tgt := 95) dX11_count_6 ra1 (by omega) (by decide) ?_
  refine j_aload_n (i := 0) (pc' := 96) dX11_count_95 rfl rfl 0 rfl ?_
  refine j_iconst (pc' := 97) dX11_count_96 rfl ?_
  obtain ⟨u21, e21, H⟩ := bs H
  obtain ⟨p22, e22, H⟩ := bs H
  refine j_cVi (y := yX11_refuse) (dY := 1) (vs := [vi 1]) (st := []) (q := a0) (pc' := 100) dX11_count_97 rfl ymX11_refuse yvX11_refuse ml_X11_105 (by decide) rfl (Nat.le_of_ble_eq_true rfl) (Nat.le_of_ble_eq_true rfl) e21 (tX11_refuse a0 1 h1 ⟨by decide, by decide⟩ e22) (fun r22 z22 => ?_)
  obtain rfl := Option.some.inj H
  exact j_iret dX11_count_100 r22 ⟨rfl, rfl⟩
-- X11_heap
noncomputable def fX11_heap (a0 : Nat) (a1 : Int) (h : Hp) : Option (Int × Hp) :=
  (cob h 10 a0).bind fun _ => (fX11_isThing a0 a1 h).bind fun p2 => if p2.1 = 0 then ((cob p2.2 10 a0).bind fun _ => (fX11_refuse a0 1 p2.2).bind fun p10 => some (p10.1, p10.2)) else ((putV p2.2 10 a0 11 (vi 0)).bind fun h4 => (getR h4 10 a0 0).bind fun v5 => (getR h4 6 v5 5).bind fun v6 => (getR h4 5 v6 2).bind fun v7 => (ald h4 0 v7 a1).bind fun v8 => some (v8, h4))
theorem tX11_heap {L : Nat} {xs : Nat → Int32} {l : Launch} {res : Int × Hp} (a0 : Nat) (a1 : Int) (h : Hp) (ra1 : R32 a1) (H : fX11_heap a0 a1 h = some res) : J L xs l RX11 cX11_heap 2 false 2 (QI res) 0 0 0 (alv 0 [vr a0, vi a1]) [] h := by
  unfold fX11_heap at H
  show J L xs l RX11 cX11_heap 2 false 2 (QI res) 0 0 0 [(0, vr a0), (1, vi a1)] [] h
  refine j_aload_n (i := 0) (pc' := 1) dX11_heap_0 rfl rfl 0 rfl ?_
  refine j_iload_n (i := 1) (pc' := 2) dX11_heap_1 rfl rfl 1 rfl ?_
  obtain ⟨u1, e1, H⟩ := bs H
  obtain ⟨p2, e2, H⟩ := bs H
  refine j_cVb (y := yX11_isThing) (dY := 1) (vs := [vi a1]) (st := []) (q := a0) (pc' := 5) dX11_heap_2 rfl ymX11_isThing yvX11_isThing ml_X11_131 (by decide) rfl (Nat.le_of_ble_eq_true rfl) (Nat.le_of_ble_eq_true rfl) e1 (tX11_isThing a0 a1 h ra1 e2) (fun r2 b2 z2 => ?_)
  refine j_if_ne (tgt := 14) (pc' := 8) dX11_heap_5 (by decide) rfl r2 (fun c3 => ?_) (fun c3 => ?_)
  · rw [if_neg c3] at H
    refine j_aload_n (i := 0) (pc' := 15) dX11_heap_14 rfl rfl 0 rfl ?_
    refine j_iconst (pc' := 16) dX11_heap_15 rfl ?_
    obtain ⟨h4, e4, H⟩ := bs H
    refine j_putV (pc' := 19) dX11_heap_16 rfl fp_X11_83 tI ⟨by decide, by decide⟩ e4 ?_
    refine j_aload_n (i := 0) (pc' := 20) dX11_heap_19 rfl rfl 0 rfl ?_
    obtain ⟨v5, e5, H⟩ := bs H
    refine j_getR (pc' := 23) dX11_heap_20 rfl fl_X11_10 e5 (fun r5 => ?_)
    obtain ⟨v6, e6, H⟩ := bs H
    refine j_getR (pc' := 26) dX11_heap_23 rfl fl_X11_163 e6 (fun r6 => ?_)
    obtain ⟨v7, e7, H⟩ := bs H
    refine j_getR (pc' := 29) dX11_heap_26 rfl fl_X11_169 e7 (fun r7 => ?_)
    refine j_iload_n (i := 1) (pc' := 30) dX11_heap_29 rfl rfl 1 rfl ?_
    obtain ⟨v8, e8, H⟩ := bs H
    refine j_iald (pc' := 31) dX11_heap_30 rfl e8 (fun r8 => ?_)
    obtain rfl := Option.some.inj H
    exact j_iret dX11_heap_31 r8 ⟨rfl, rfl⟩
  · rw [if_pos c3] at H
    refine j_aload_n (i := 0) (pc' := 9) dX11_heap_8 rfl rfl 0 rfl ?_
    refine j_iconst (pc' := 10) dX11_heap_9 rfl ?_
    obtain ⟨u9, e9, H⟩ := bs H
    obtain ⟨p10, e10, H⟩ := bs H
    refine j_cVi (y := yX11_refuse) (dY := 1) (vs := [vi 1]) (st := []) (q := a0) (pc' := 13) dX11_heap_10 rfl ymX11_refuse yvX11_refuse ml_X11_105 (by decide) rfl (Nat.le_of_ble_eq_true rfl) (Nat.le_of_ble_eq_true rfl) e9 (tX11_refuse a0 1 p2.2 ⟨by decide, by decide⟩ e10) (fun r10 z10 => ?_)
    obtain rfl := Option.some.inj H
    exact j_iret dX11_heap_13 r10 ⟨rfl, rfl⟩
-- X11_pair
noncomputable def fX11_pair_16 (x0 : Nat) (h : Hp) : Option (Int × Hp) :=
  (cob h 10 x0).bind fun _ => (fX11_refuse x0 1 h).bind fun p2 => some (p2.1, p2.2)
theorem tX11_pair_16 {L : Nat} {xs : Nat → Int32} {l : Launch} {res : Int × Hp} (x0 : Nat) (h : Hp)  (H : fX11_pair_16 x0 h = some res) : J L xs l RX11 cX11_pair 4 false 2 (QI res) 0 0 16 [(0, vr x0)] [] h := by
  unfold fX11_pair_16 at H
  refine j_aload_n (i := 0) (pc' := 17) dX11_pair_16 rfl rfl 0 rfl ?_
  refine j_iconst (pc' := 18) dX11_pair_17 rfl ?_
  obtain ⟨u1, e1, H⟩ := bs H
  obtain ⟨p2, e2, H⟩ := bs H
  refine j_cVi (y := yX11_refuse) (dY := 1) (vs := [vi 1]) (st := []) (q := x0) (pc' := 21) dX11_pair_18 rfl ymX11_refuse yvX11_refuse ml_X11_105 (by decide) rfl (Nat.le_of_ble_eq_true rfl) (Nat.le_of_ble_eq_true rfl) e1 (tX11_refuse x0 1 h ⟨by decide, by decide⟩ e2) (fun r2 z2 => ?_)
  obtain rfl := Option.some.inj H
  exact j_iret dX11_pair_21 r2 ⟨rfl, rfl⟩
noncomputable def fX11_pair (a0 : Nat) (a1 : Int) (a2 : Int) (a3 : Int) (h : Hp) : Option (Int × Hp) :=
  (cob h 10 a0).bind fun _ => (fX11_isThing a0 a1 h).bind fun p2 => if p2.1 = 0 then (fX11_pair_16 a0 p2.2) else ((cob p2.2 10 a0).bind fun _ => (fX11_isThing a0 a2 p2.2).bind fun p5 => if p5.1 = 0 then (fX11_pair_16 a0 p5.2) else ((putV p5.2 10 a0 11 (vi 0)).bind fun h7 => if a3 = 0 then ((getR h7 10 a0 0).bind fun v9 => (cob h7 6 v9).bind fun _ => (fX7_wayOf v9 a1 a2 h7).bind fun p11 => some (p11.1, p11.2)) else if a3 = 1 then ((getR h7 10 a0 0).bind fun v13 => (cob h7 6 v13).bind fun _ => (fX7_weightOf v13 a1 a2 h7).bind fun p15 => some (p15.1, p15.2)) else if a3 = 2 then ((getR h7 10 a0 0).bind fun v17 => (cob h7 6 v17).bind fun _ => (fX7_likeOf v17 a1 a2 h7).bind fun p19 => some (p19.1, p19.2)) else ((cob h7 10 a0).bind fun _ => (fX11_refuse a0 1 h7).bind fun p21 => some (p21.1, p21.2))))
theorem tX11_pair {L : Nat} {xs : Nat → Int32} {l : Launch} {res : Int × Hp} (a0 : Nat) (a1 : Int) (a2 : Int) (a3 : Int) (h : Hp) (ra1 : R32 a1) (ra2 : R32 a2) (ra3 : R32 a3) (H : fX11_pair a0 a1 a2 a3 h = some res) : J L xs l RX11 cX11_pair 4 false 2 (QI res) 0 0 0 (alv 0 [vr a0, vi a1, vi a2, vi a3]) [] h := by
  unfold fX11_pair at H
  show J L xs l RX11 cX11_pair 4 false 2 (QI res) 0 0 0 [(0, vr a0), (1, vi a1), (2, vi a2), (3, vi a3)] [] h
  refine j_aload_n (i := 0) (pc' := 1) dX11_pair_0 rfl rfl 0 rfl ?_
  refine j_iload_n (i := 1) (pc' := 2) dX11_pair_1 rfl rfl 1 rfl ?_
  obtain ⟨u1, e1, H⟩ := bs H
  obtain ⟨p2, e2, H⟩ := bs H
  refine j_cVb (y := yX11_isThing) (dY := 1) (vs := [vi a1]) (st := []) (q := a0) (pc' := 5) dX11_pair_2 rfl ymX11_isThing yvX11_isThing ml_X11_131 (by decide) rfl (Nat.le_of_ble_eq_true rfl) (Nat.le_of_ble_eq_true rfl) e1 (tX11_isThing a0 a1 h ra1 e2) (fun r2 b2 z2 => ?_)
  refine j_if_eq (tgt := 16) (pc' := 8) dX11_pair_5 (by decide) rfl r2 (fun c3 => ?_) (fun c3 => ?_)
  · rw [if_pos c3] at H
    refine j_sub (lv' := [(0, vr a0)]) [0] rfl ?_
    exact tX11_pair_16   a0 p2.2  H
  · rw [if_neg c3] at H
    refine j_aload_n (i := 0) (pc' := 9) dX11_pair_8 rfl rfl 0 rfl ?_
    refine j_iload_n (i := 2) (pc' := 10) dX11_pair_9 rfl rfl 2 rfl ?_
    obtain ⟨u4, e4, H⟩ := bs H
    obtain ⟨p5, e5, H⟩ := bs H
    refine j_cVb (y := yX11_isThing) (dY := 1) (vs := [vi a2]) (st := []) (q := a0) (pc' := 13) dX11_pair_10 rfl ymX11_isThing yvX11_isThing ml_X11_131 (by decide) rfl (Nat.le_of_ble_eq_true rfl) (Nat.le_of_ble_eq_true rfl) e4 (tX11_isThing a0 a2 p2.2 ra2 e5) (fun r5 b5 z5 => ?_)
    refine j_if_ne (tgt := 22) (pc' := 16) dX11_pair_13 (by decide) rfl r5 (fun c6 => ?_) (fun c6 => ?_)
    · rw [if_neg c6] at H
      refine j_aload_n (i := 0) (pc' := 23) dX11_pair_22 rfl rfl 0 rfl ?_
      refine j_iconst (pc' := 24) dX11_pair_23 rfl ?_
      obtain ⟨h7, e7, H⟩ := bs H
      refine j_putV (pc' := 27) dX11_pair_24 rfl fp_X11_83 tI ⟨by decide, by decide⟩ e7 ?_
      refine j_iload_n (i := 3) (pc' := 28) dX11_pair_27 rfl rfl 3 rfl ?_
      by_cases c8 : a3 = 0
      · rw [if_pos c8] at H
        refine j_tabIn (tgt := 56) (off := 28) dX11_pair_28 ra3 (by omega) (by omega) (by rw [c8]; rfl) (by decide) ?_
        refine j_aload_n (i := 0) (pc' := 57) dX11_pair_56 rfl rfl 0 rfl ?_
        obtain ⟨v9, e9, H⟩ := bs H
        refine j_getR (pc' := 60) dX11_pair_57 rfl fl_X11_10 e9 (fun r9 => ?_)
        refine j_iload_n (i := 1) (pc' := 61) dX11_pair_60 rfl rfl 1 rfl ?_
        refine j_iload_n (i := 2) (pc' := 62) dX11_pair_61 rfl rfl 2 rfl ?_
        obtain ⟨u10, e10, H⟩ := bs H
        obtain ⟨p11, e11, H⟩ := bs H
        refine j_cVi (y := yX7_wayOf) (dY := 1) (vs := [vi a1, vi a2]) (st := []) (q := v9) (pc' := 65) dX11_pair_62 rfl ymX7_wayOf yvX7_wayOf ml_X11_109 (by decide) rfl (Nat.le_of_ble_eq_true rfl) (Nat.le_of_ble_eq_true rfl) e10 (tX7_wayOf v9 a1 a2 h7 ra1 ra2 e11) (fun r11 z11 => ?_)
        obtain rfl := Option.some.inj H
        exact j_iret dX11_pair_65 r11 ⟨rfl, rfl⟩
      rw [if_neg c8] at H
      by_cases c12 : a3 = 1
      · rw [if_pos c12] at H
        refine j_tabIn (tgt := 66) (off := 38) dX11_pair_28 ra3 (by omega) (by omega) (by rw [c12]; rfl) (by decide) ?_
        refine j_aload_n (i := 0) (pc' := 67) dX11_pair_66 rfl rfl 0 rfl ?_
        obtain ⟨v13, e13, H⟩ := bs H
        refine j_getR (pc' := 70) dX11_pair_67 rfl fl_X11_10 e13 (fun r13 => ?_)
        refine j_iload_n (i := 1) (pc' := 71) dX11_pair_70 rfl rfl 1 rfl ?_
        refine j_iload_n (i := 2) (pc' := 72) dX11_pair_71 rfl rfl 2 rfl ?_
        obtain ⟨u14, e14, H⟩ := bs H
        obtain ⟨p15, e15, H⟩ := bs H
        refine j_cVi (y := yX7_weightOf) (dY := 1) (vs := [vi a1, vi a2]) (st := []) (q := v13) (pc' := 75) dX11_pair_72 rfl ymX7_weightOf yvX7_weightOf ml_X11_178 (by decide) rfl (Nat.le_of_ble_eq_true rfl) (Nat.le_of_ble_eq_true rfl) e14 (tX7_weightOf v13 a1 a2 h7 ra1 ra2 e15) (fun r15 z15 => ?_)
        obtain rfl := Option.some.inj H
        exact j_iret dX11_pair_75 r15 ⟨rfl, rfl⟩
      rw [if_neg c12] at H
      by_cases c16 : a3 = 2
      · rw [if_pos c16] at H
        refine j_tabIn (tgt := 76) (off := 48) dX11_pair_28 ra3 (by omega) (by omega) (by rw [c16]; rfl) (by decide) ?_
        refine j_aload_n (i := 0) (pc' := 77) dX11_pair_76 rfl rfl 0 rfl ?_
        obtain ⟨v17, e17, H⟩ := bs H
        refine j_getR (pc' := 80) dX11_pair_77 rfl fl_X11_10 e17 (fun r17 => ?_)
        refine j_iload_n (i := 1) (pc' := 81) dX11_pair_80 rfl rfl 1 rfl ?_
        refine j_iload_n (i := 2) (pc' := 82) dX11_pair_81 rfl rfl 2 rfl ?_
        obtain ⟨u18, e18, H⟩ := bs H
        obtain ⟨p19, e19, H⟩ := bs H
        refine j_cVi (y := yX7_likeOf) (dY := 1) (vs := [vi a1, vi a2]) (st := []) (q := v17) (pc' := 85) dX11_pair_82 rfl ymX7_likeOf yvX7_likeOf ml_X11_181 (by decide) rfl (Nat.le_of_ble_eq_true rfl) (Nat.le_of_ble_eq_true rfl) e18 (tX7_likeOf v17 a1 a2 h7 ra1 ra2 e19) (fun r19 z19 => ?_)
        obtain rfl := Option.some.inj H
        exact j_iret dX11_pair_85 r19 ⟨rfl, rfl⟩
      rw [if_neg c16] at H
      refine j_tabOut (tgt := 86) dX11_pair_28 ra3 (by omega) (by decide) ?_
      refine j_aload_n (i := 0) (pc' := 87) dX11_pair_86 rfl rfl 0 rfl ?_
      refine j_iconst (pc' := 88) dX11_pair_87 rfl ?_
      obtain ⟨u20, e20, H⟩ := bs H
      obtain ⟨p21, e21, H⟩ := bs H
      refine j_cVi (y := yX11_refuse) (dY := 1) (vs := [vi 1]) (st := []) (q := a0) (pc' := 91) dX11_pair_88 rfl ymX11_refuse yvX11_refuse ml_X11_105 (by decide) rfl (Nat.le_of_ble_eq_true rfl) (Nat.le_of_ble_eq_true rfl) e20 (tX11_refuse a0 1 h7 ⟨by decide, by decide⟩ e21) (fun r21 z21 => ?_)
      obtain rfl := Option.some.inj H
      exact j_iret dX11_pair_91 r21 ⟨rfl, rfl⟩
    · rw [if_pos c6] at H
      refine j_sub (lv' := [(0, vr a0)]) [0] rfl ?_
      exact tX11_pair_16   a0 p5.2  H
-- X11_isGoal
noncomputable def fX11_isGoal_14 (s0 : Int) (h : Hp) : Option (Int × Hp) :=
  (cbo s0).bind fun _ => some (s0, h)
theorem tX11_isGoal_14 {L : Nat} {xs : Nat → Int32} {l : Launch} {res : Int × Hp} (s0 : Int) (h : Hp) (rs0 : R32 s0) (H : fX11_isGoal_14 s0 h = some res) : J L xs l RX11 cX11_isGoal 1 false 1 (QB res) 0 0 14 [] [vi s0] h := by
  unfold fX11_isGoal_14 at H
  obtain ⟨u1, e1, H⟩ := bs H
  obtain rfl := Option.some.inj H
  exact j_iret dX11_isGoal_14 rs0 ⟨rfl, rfl, cbo_R e1⟩
noncomputable def fX11_isGoal_13  (h : Hp) : Option (Int × Hp) :=
  fX11_isGoal_14 0 h
theorem tX11_isGoal_13 {L : Nat} {xs : Nat → Int32} {l : Launch} {res : Int × Hp}  (h : Hp)  (H : fX11_isGoal_13  h = some res) : J L xs l RX11 cX11_isGoal 1 false 1 (QB res) 0 0 13 [] [] h := by
  unfold fX11_isGoal_13 at H
  refine j_iconst (pc' := 14) dX11_isGoal_13 rfl ?_
  exact tX11_isGoal_14   0 h ⟨by decide, by decide⟩ H
noncomputable def fX11_isGoal (a0 : Int) (h : Hp) : Option (Int × Hp) :=
  if a0 < 0 then (fX11_isGoal_13 h) else (if 3 < a0 then (fX11_isGoal_13 h) else (fX11_isGoal_14 1 h))
theorem tX11_isGoal {L : Nat} {xs : Nat → Int32} {l : Launch} {res : Int × Hp} (a0 : Int) (h : Hp) (ra0 : R32 a0) (H : fX11_isGoal a0 h = some res) : J L xs l RX11 cX11_isGoal 1 false 1 (QB res) 0 0 0 (alv 0 [vi a0]) [] h := by
  unfold fX11_isGoal at H
  show J L xs l RX11 cX11_isGoal 1 false 1 (QB res) 0 0 0 [(0, vi a0)] [] h
  refine j_iload_n (i := 0) (pc' := 1) dX11_isGoal_0 rfl rfl 0 rfl ?_
  refine j_if_lt (tgt := 13) (pc' := 4) dX11_isGoal_1 (by decide) rfl ra0 (fun c1 => ?_) (fun c1 => ?_)
  · rw [if_pos c1] at H
    refine j_sub (lv' := []) [] rfl ?_
    exact tX11_isGoal_13   h  H
  · rw [if_neg c1] at H
    refine j_iload_n (i := 0) (pc' := 5) dX11_isGoal_4 rfl rfl 0 rfl ?_
    refine j_iconst (pc' := 6) dX11_isGoal_5 rfl ?_
    refine j_icmp_gt (tgt := 13) (pc' := 9) dX11_isGoal_6 (by decide) rfl ra0 ⟨by decide, by decide⟩ (fun c2 => ?_) (fun c2 => ?_)
    · rw [if_pos c2] at H
      refine j_sub (lv' := []) [] rfl ?_
      exact tX11_isGoal_13   h  H
    · rw [if_neg c2] at H
      refine j_iconst (pc' := 10) dX11_isGoal_9 rfl ?_
      refine j_goto (tgt := 14) dX11_isGoal_10 (by decide) ?_
      refine j_sub (lv' := []) [] rfl ?_
      exact tX11_isGoal_14   1 h ⟨by decide, by decide⟩ H
-- X11_cost
noncomputable def fX11_cost (a0 : Nat) (a1 : Int) (h : Hp) : Option (Int × Hp) :=
  (fX11_isGoal a1 h).bind fun p1 => if p1.1 = 0 then ((cob p1.2 10 a0).bind fun _ => (fX11_refuse a0 1 p1.2).bind fun p9 => some (p9.1, p9.2)) else ((putV p1.2 10 a0 11 (vi 0)).bind fun h3 => (getR h3 10 a0 0).bind fun v4 => (getR h3 10 a0 0).bind fun v5 => (getR h3 6 v5 5).bind fun v6 => (fX0_ofParting v4 a1 v6 h3).bind fun p7 => some (p7.1, p7.2))
theorem tX11_cost {L : Nat} {xs : Nat → Int32} {l : Launch} {res : Int × Hp} (a0 : Nat) (a1 : Int) (h : Hp) (ra1 : R32 a1) (H : fX11_cost a0 a1 h = some res) : J L xs l RX11 cX11_cost 2 false 6 (QL res) 0 0 0 (alv 0 [vr a0, vi a1]) [] h := by
  unfold fX11_cost at H
  show J L xs l RX11 cX11_cost 2 false 6 (QL res) 0 0 0 [(0, vr a0), (1, vi a1)] [] h
  refine j_iload_n (i := 1) (pc' := 1) dX11_cost_0 rfl rfl 1 rfl ?_
  obtain ⟨p1, e1, H⟩ := bs H
  refine j_cSb (y := yX11_isGoal) (dY := 1) (vs := [vi a1]) (st := []) (pc' := 4) dX11_cost_1 rfl ymX11_isGoal ysX11_isGoal ml_X11_184 (by decide) rfl (Nat.le_of_ble_eq_true rfl) (Nat.le_of_ble_eq_true rfl) (tX11_isGoal a1 h ra1 e1) (fun r1 b1 z1 => ?_)
  refine j_if_ne (tgt := 14) (pc' := 7) dX11_cost_4 (by decide) rfl r1 (fun c2 => ?_) (fun c2 => ?_)
  · rw [if_neg c2] at H
    refine j_aload_n (i := 0) (pc' := 15) dX11_cost_14 rfl rfl 0 rfl ?_
    refine j_iconst (pc' := 16) dX11_cost_15 rfl ?_
    obtain ⟨h3, e3, H⟩ := bs H
    refine j_putV (pc' := 19) dX11_cost_16 rfl fp_X11_83 tI ⟨by decide, by decide⟩ e3 ?_
    refine j_aload_n (i := 0) (pc' := 20) dX11_cost_19 rfl rfl 0 rfl ?_
    obtain ⟨v4, e4, H⟩ := bs H
    refine j_getR (pc' := 23) dX11_cost_20 rfl fl_X11_10 e4 (fun r4 => ?_)
    refine j_iload_n (i := 1) (pc' := 24) dX11_cost_23 rfl rfl 1 rfl ?_
    refine j_aload_n (i := 0) (pc' := 25) dX11_cost_24 rfl rfl 0 rfl ?_
    obtain ⟨v5, e5, H⟩ := bs H
    refine j_getR (pc' := 28) dX11_cost_25 rfl fl_X11_10 e5 (fun r5 => ?_)
    obtain ⟨v6, e6, H⟩ := bs H
    refine j_getR (pc' := 31) dX11_cost_28 rfl fl_X11_163 e6 (fun r6 => ?_)
    obtain ⟨p7, e7, H⟩ := bs H
    refine j_cSl (y := yX0_ofParting) (dY := 5) (vs := [vr v4, vi a1, vr v6]) (st := []) (pc' := 34) dX11_cost_31 rfl ymX0_ofParting ysX0_ofParting ml_X11_187 (by decide) rfl (Nat.le_of_ble_eq_true rfl) (Nat.le_of_ble_eq_true rfl) (tX0_ofParting v4 a1 v6 h3 ra1 e7) (fun r7 z7 => ?_)
    obtain rfl := Option.some.inj H
    exact j_lret dX11_cost_34 r7 ⟨rfl, rfl⟩
  · rw [if_pos c2] at H
    refine j_aload_n (i := 0) (pc' := 8) dX11_cost_7 rfl rfl 0 rfl ?_
    refine j_iconst (pc' := 9) dX11_cost_8 rfl ?_
    obtain ⟨u8, e8, H⟩ := bs H
    obtain ⟨p9, e9, H⟩ := bs H
    refine j_cVi (y := yX11_refuse) (dY := 1) (vs := [vi 1]) (st := []) (q := a0) (pc' := 12) dX11_cost_9 rfl ymX11_refuse yvX11_refuse ml_X11_105 (by decide) rfl (Nat.le_of_ble_eq_true rfl) (Nat.le_of_ble_eq_true rfl) e8 (tX11_refuse a0 1 p1.2 ⟨by decide, by decide⟩ e9) (fun r9 z9 => ?_)
    refine j_i2l (pc' := 13) dX11_cost_12 rfl r9 ?_
    obtain rfl := Option.some.inj H
    exact j_lret dX11_cost_13 (R32_l r9) ⟨rfl, rfl⟩
