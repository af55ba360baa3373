-- X12_better
noncomputable def fX12_better_289 (x2 : Int) (h : Hp) : Option (Int × Hp) :=
  some (x2, h)
theorem tX12_better_289 {L : Nat} {xs : Nat → Int32} {l : Launch} {res : Int × Hp} (x2 : Int) (h : Hp) (rx2 : R32 x2) (H : fX12_better_289 x2 h = some res) : J L xs l RX12 cX12_better 15 false 5 (QI res) 0 0 289 [(2, vi x2)] [] h := by
  unfold fX12_better_289 at H
  refine j_iload_n (i := 2) (pc' := 290) dX12_better_289 rfl rfl 0 rfl ?_
  obtain rfl := Option.some.inj H
  exact j_iret dX12_better_290 rx2 ⟨rfl, rfl⟩
noncomputable def fX12_better_286 (k30 : Nat → Int → Int → Int → Hp → Option (Int × Hp)) (x0 : Nat) (x1 : Int) (x2 : Int) (x3 : Int) (h : Hp) : Option (Int × Hp) :=
  k30 x0 x1 x2 x3 h
theorem tX12_better_286 {L : Nat} {xs : Nat → Int32} {l : Launch} {res : Int × Hp} (k30 : Nat → Int → Int → Int → Hp → Option (Int × Hp)) (hk30 : ∀ (x0 : Nat) (x1 : Int) (x2 : Int) (x3 : Int) (h : Hp), R32 x1 → R32 x2 → R32 x3 → k30 x0 x1 x2 x3 h = some res → J L xs l RX12 cX12_better 15 false 5 (QI res) 0 0 30 [(0, vr x0), (1, vi x1), (2, vi x2), (3, vi x3)] [] h) (x0 : Nat) (x1 : Int) (x2 : Int) (x3 : Int) (h : Hp) (rx1 : R32 x1) (rx2 : R32 x2) (rx3 : R32 x3) (H : fX12_better_286 k30 x0 x1 x2 x3 h = some res) : J L xs l RX12 cX12_better 15 false 5 (QI res) 0 0 286 [(0, vr x0), (1, vi x1), (2, vi x2), (3, vi x3)] [] h := by
  unfold fX12_better_286 at H
  refine j_goto (tgt := 30) dX12_better_286 (by decide) ?_
  exact hk30 x0 x1 x2 x3 h rx1 rx2 rx3 H
noncomputable def fX12_better_270 (k30 : Nat → Int → Int → Int → Hp → Option (Int × Hp)) (x0 : Nat) (x1 : Int) (x2 : Int) (s0 : Int) (h : Hp) : Option (Int × Hp) :=
  if s0 = 0 then (fX12_better_286 k30 x0 x1 x2 s0 h) else ((getR h 11 x0 21).bind fun v2 => (cob h 11 x0).bind fun _ => (fX12_become x0 v2 h).bind fun h4 => (c32 (x2 + 1)).bind fun _ => fX12_better_286 k30 x0 x1 (x2 + 1) s0 h4)
theorem tX12_better_270 {L : Nat} {xs : Nat → Int32} {l : Launch} {res : Int × Hp} (k30 : Nat → Int → Int → Int → Hp → Option (Int × Hp)) (hk30 : ∀ (x0 : Nat) (x1 : Int) (x2 : Int) (x3 : Int) (h : Hp), R32 x1 → R32 x2 → R32 x3 → k30 x0 x1 x2 x3 h = some res → J L xs l RX12 cX12_better 15 false 5 (QI res) 0 0 30 [(0, vr x0), (1, vi x1), (2, vi x2), (3, vi x3)] [] h) (x0 : Nat) (x1 : Int) (x2 : Int) (s0 : Int) (h : Hp) (rx1 : R32 x1) (rx2 : R32 x2) (rs0 : R32 s0) (H : fX12_better_270 k30 x0 x1 x2 s0 h = some res) : J L xs l RX12 cX12_better 15 false 5 (QI res) 0 0 270 [(0, vr x0), (1, vi x1), (2, vi x2)] [vi s0] h := by
  unfold fX12_better_270 at H
  refine j_istore_n (i := 3) (lv' := [(0, vr x0), (1, vi x1), (2, vi x2), (3, vi s0)]) (pc' := 271) dX12_better_270 rfl rfl (by decide) [1, 2, 3, 0] rfl ?_
  refine j_iload_n (i := 3) (pc' := 272) dX12_better_271 rfl rfl 3 rfl ?_
  refine j_if_eq (tgt := 286) (pc' := 275) dX12_better_272 (by decide) rfl rs0 (fun c1 => ?_) (fun c1 => ?_)
  · rw [if_pos c1] at H
    exact tX12_better_286 _ hk30 x0 x1 x2 s0 h rx1 rx2 rs0 H
  · rw [if_neg c1] at H
    refine j_aload_n (i := 0) (pc' := 276) dX12_better_275 rfl rfl 0 rfl ?_
    refine j_aload_n (i := 0) (pc' := 277) dX12_better_276 rfl rfl 0 rfl ?_
    obtain ⟨v2, e2, H⟩ := bs H
    refine j_getR (pc' := 280) dX12_better_277 rfl fl_X12_61 e2 (fun r2 => ?_)
    obtain ⟨u3, e3, H⟩ := bs H
    obtain ⟨h4, e4, H⟩ := bs H
    refine j_cVv (y := yX12_become) (dY := 2) (vs := [vr v2]) (st := []) (q := x0) (pc' := 283) dX12_better_280 rfl ymX12_become yvX12_become ml_X12_150 (by decide) rfl (Nat.le_of_ble_eq_true rfl) (Nat.le_of_ble_eq_true rfl) e3 (tX12_become x0 v2 h e4) (fun z4 => ?_)
    obtain ⟨u5, e5, H⟩ := bs H
    have r5 := c32_R e5
    refine j_iinc (k0 := 2) (lv' := [(0, vr x0), (1, vi x1), (2, vi (x2 + 1)), (3, vi s0)]) (pc' := 286) dX12_better_283 rfl rfl (by decide) [1, 2, 0, 3] rfl ?_
    exact tX12_better_286 _ hk30 x0 x1 (x2 + 1) s0 h4 rx1 r5 rs0 H
noncomputable def fX12_better_257 (k30 : Nat → Int → Int → Int → Hp → Option (Int × Hp)) (x0 : Nat) (x1 : Int) (x2 : Int) (x4 : Int) (x6 : Int) (h : Hp) : Option (Int × Hp) :=
  if 0 ≤ (lCmp x6 x4) then (fX12_better_270 k30 x0 x1 x2 0 h) else (fX12_better_270 k30 x0 x1 x2 1 h)
theorem tX12_better_257 {L : Nat} {xs : Nat → Int32} {l : Launch} {res : Int × Hp} (k30 : Nat → Int → Int → Int → Hp → Option (Int × Hp)) (hk30 : ∀ (x0 : Nat) (x1 : Int) (x2 : Int) (x3 : Int) (h : Hp), R32 x1 → R32 x2 → R32 x3 → k30 x0 x1 x2 x3 h = some res → J L xs l RX12 cX12_better 15 false 5 (QI res) 0 0 30 [(0, vr x0), (1, vi x1), (2, vi x2), (3, vi x3)] [] h) (x0 : Nat) (x1 : Int) (x2 : Int) (x4 : Int) (x6 : Int) (h : Hp) (rx1 : R32 x1) (rx2 : R32 x2) (rx4 : R64 x4) (rx6 : R64 x6) (H : fX12_better_257 k30 x0 x1 x2 x4 x6 h = some res) : J L xs l RX12 cX12_better 15 false 5 (QI res) 0 0 257 [(0, vr x0), (1, vi x1), (2, vi x2), (4, vl x4), (6, vl x6)] [] h := by
  unfold fX12_better_257 at H
  refine j_lload (pc' := 259) dX12_better_257 rfl 4 rfl ?_
  refine j_lload (pc' := 261) dX12_better_259 rfl 3 rfl ?_
  refine j_lcmp (pc' := 262) dX12_better_261 rfl rx6 rx4 ?_
  refine j_if_ge (tgt := 269) (pc' := 265) dX12_better_262 (by decide) rfl (R32_lcmp _ _) (fun c1 => ?_) (fun c1 => ?_)
  · rw [if_pos c1] at H
    refine j_iconst (pc' := 270) dX12_better_269 rfl ?_
    refine j_sub (lv' := [(0, vr x0), (1, vi x1), (2, vi x2)]) [0, 1, 2] rfl ?_
    exact tX12_better_270 _ hk30 x0 x1 x2 0 h rx1 rx2 ⟨by decide, by decide⟩ H
  · rw [if_neg c1] at H
    refine j_iconst (pc' := 266) dX12_better_265 rfl ?_
    refine j_goto (tgt := 270) dX12_better_266 (by decide) ?_
    refine j_sub (lv' := [(0, vr x0), (1, vi x1), (2, vi x2)]) [0, 1, 2] rfl ?_
    exact tX12_better_270 _ hk30 x0 x1 x2 1 h rx1 rx2 ⟨by decide, by decide⟩ H
noncomputable def fX12_better_251 (k30 : Nat → Int → Int → Int → Hp → Option (Int × Hp)) (k62 : Nat → Int → Int → Int → Int → Int → Int → Hp → Option (Int × Hp)) (x0 : Nat) (x1 : Int) (x2 : Int) (x4 : Int) (x6 : Int) (x8 : Int) (x9 : Int) (h : Hp) : Option (Int × Hp) :=
  (c32 (x9 + 1)).bind fun _ => k62 x0 x1 x2 x4 x6 x8 (x9 + 1) h
theorem tX12_better_251 {L : Nat} {xs : Nat → Int32} {l : Launch} {res : Int × Hp} (k30 : Nat → Int → Int → Int → Hp → Option (Int × Hp)) (k62 : Nat → Int → Int → Int → Int → Int → Int → Hp → Option (Int × Hp)) (hk30 : ∀ (x0 : Nat) (x1 : Int) (x2 : Int) (x3 : Int) (h : Hp), R32 x1 → R32 x2 → R32 x3 → k30 x0 x1 x2 x3 h = some res → J L xs l RX12 cX12_better 15 false 5 (QI res) 0 0 30 [(0, vr x0), (1, vi x1), (2, vi x2), (3, vi x3)] [] h) (hk62 : ∀ (x0 : Nat) (x1 : Int) (x2 : Int) (x4 : Int) (x6 : Int) (x8 : Int) (x9 : Int) (h : Hp), R32 x1 → R32 x2 → R64 x4 → R64 x6 → R32 x8 → R32 x9 → k62 x0 x1 x2 x4 x6 x8 x9 h = some res → J L xs l RX12 cX12_better 15 false 5 (QI res) 0 0 62 [(0, vr x0), (1, vi x1), (2, vi x2), (4, vl x4), (6, vl x6), (8, vi x8), (9, vi x9)] [] h) (x0 : Nat) (x1 : Int) (x2 : Int) (x4 : Int) (x6 : Int) (x8 : Int) (x9 : Int) (h : Hp) (rx1 : R32 x1) (rx2 : R32 x2) (rx4 : R64 x4) (rx6 : R64 x6) (rx8 : R32 x8) (rx9 : R32 x9) (H : fX12_better_251 k30 k62 x0 x1 x2 x4 x6 x8 x9 h = some res) : J L xs l RX12 cX12_better 15 false 5 (QI res) 0 0 251 [(0, vr x0), (1, vi x1), (2, vi x2), (4, vl x4), (6, vl x6), (8, vi x8), (9, vi x9)] [] h := by
  unfold fX12_better_251 at H
  obtain ⟨u1, e1, H⟩ := bs H
  have r1 := c32_R e1
  refine j_iinc (k0 := 6) (lv' := [(0, vr x0), (1, vi x1), (2, vi x2), (4, vl x4), (6, vl x6), (8, vi x8), (9, vi (x9 + 1))]) (pc' := 254) dX12_better_251 rfl rfl (by decide) [1, 2, 3, 4, 5, 6, 0] rfl ?_
  refine j_goto (tgt := 62) dX12_better_254 (by decide) ?_
  exact hk62 x0 x1 x2 x4 x6 x8 (x9 + 1) h rx1 rx2 rx4 rx6 rx8 r1 H
noncomputable def fX12_better_245 (k30 : Nat → Int → Int → Int → Hp → Option (Int × Hp)) (k62 : Nat → Int → Int → Int → Int → Int → Int → Hp → Option (Int × Hp)) (k131 : Nat → Int → Int → Int → Int → Int → Int → Int → Int → Hp → Option (Int × Hp)) (x0 : Nat) (x1 : Int) (x2 : Int) (x4 : Int) (x6 : Int) (x8 : Int) (x9 : Int) (x10 : Int) (x11 : Int) (h : Hp) : Option (Int × Hp) :=
  (c32 (x11 + 1)).bind fun _ => k131 x0 x1 x2 x4 x6 x8 x9 x10 (x11 + 1) h
theorem tX12_better_245 {L : Nat} {xs : Nat → Int32} {l : Launch} {res : Int × Hp} (k30 : Nat → Int → Int → Int → Hp → Option (Int × Hp)) (k62 : Nat → Int → Int → Int → Int → Int → Int → Hp → Option (Int × Hp)) (k131 : Nat → Int → Int → Int → Int → Int → Int → Int → Int → Hp → Option (Int × Hp)) (hk30 : ∀ (x0 : Nat) (x1 : Int) (x2 : Int) (x3 : Int) (h : Hp), R32 x1 → R32 x2 → R32 x3 → k30 x0 x1 x2 x3 h = some res → J L xs l RX12 cX12_better 15 false 5 (QI res) 0 0 30 [(0, vr x0), (1, vi x1), (2, vi x2), (3, vi x3)] [] h) (hk62 : ∀ (x0 : Nat) (x1 : Int) (x2 : Int) (x4 : Int) (x6 : Int) (x8 : Int) (x9 : Int) (h : Hp), R32 x1 → R32 x2 → R64 x4 → R64 x6 → R32 x8 → R32 x9 → k62 x0 x1 x2 x4 x6 x8 x9 h = some res → J L xs l RX12 cX12_better 15 false 5 (QI res) 0 0 62 [(0, vr x0), (1, vi x1), (2, vi x2), (4, vl x4), (6, vl x6), (8, vi x8), (9, vi x9)] [] h) (hk131 : ∀ (x0 : Nat) (x1 : Int) (x2 : Int) (x4 : Int) (x6 : Int) (x8 : Int) (x9 : Int) (x10 : Int) (x11 : Int) (h : Hp), R32 x1 → R32 x2 → R64 x4 → R64 x6 → R32 x8 → R32 x9 → R32 x10 → R32 x11 → k131 x0 x1 x2 x4 x6 x8 x9 x10 x11 h = some res → J L xs l RX12 cX12_better 15 false 5 (QI res) 0 0 131 [(0, vr x0), (1, vi x1), (2, vi x2), (4, vl x4), (6, vl x6), (8, vi x8), (9, vi x9), (10, vi x10), (11, vi x11)] [] h) (x0 : Nat) (x1 : Int) (x2 : Int) (x4 : Int) (x6 : Int) (x8 : Int) (x9 : Int) (x10 : Int) (x11 : Int) (h : Hp) (rx1 : R32 x1) (rx2 : R32 x2) (rx4 : R64 x4) (rx6 : R64 x6) (rx8 : R32 x8) (rx9 : R32 x9) (rx10 : R32 x10) (rx11 : R32 x11) (H : fX12_better_245 k30 k62 k131 x0 x1 x2 x4 x6 x8 x9 x10 x11 h = some res) : J L xs l RX12 cX12_better 15 false 5 (QI res) 0 0 245 [(0, vr x0), (1, vi x1), (2, vi x2), (4, vl x4), (6, vl x6), (8, vi x8), (9, vi x9), (10, vi x10), (11, vi x11)] [] h := by
  unfold fX12_better_245 at H
  obtain ⟨u1, e1, H⟩ := bs H
  have r1 := c32_R e1
  refine j_iinc (k0 := 8) (lv' := [(0, vr x0), (1, vi x1), (2, vi x2), (4, vl x4), (6, vl x6), (8, vi x8), (9, vi x9), (10, vi x10), (11, vi (x11 + 1))]) (pc' := 248) dX12_better_245 rfl rfl (by decide) [1, 2, 3, 4, 5, 6, 7, 8, 0] rfl ?_
  refine j_goto (tgt := 131) dX12_better_248 (by decide) ?_
  exact hk131 x0 x1 x2 x4 x6 x8 x9 x10 (x11 + 1) h rx1 rx2 rx4 rx6 rx8 rx9 rx10 r1 H
noncomputable def fX12_better_216 (k30 : Nat → Int → Int → Int → Hp → Option (Int × Hp)) (k62 : Nat → Int → Int → Int → Int → Int → Int → Hp → Option (Int × Hp)) (k131 : Nat → Int → Int → Int → Int → Int → Int → Int → Int → Hp → Option (Int × Hp)) : Nat → Nat → Int → Int → Int → Int → Int → Int → Int → Int → Int → Hp → Option (Int × Hp)
  | 0, _, _, _, _, _, _, _, _, _, _, _ => none
  | n + 1, x0, x1, x2, x4, x6, x8, x9, x10, x11, x14, h => (cob h 11 x0).bind fun _ => (fX12_n x0 h).bind fun p2 => if p2.1 ≤ x14 then (fX12_better_245 k30 k62 k131 x0 x1 x2 x4 x6 x8 x9 x10 x11 p2.2) else ((getR p2.2 11 x0 21).bind fun v4 => (getR p2.2 11 x0 20).bind fun v5 => (ald p2.2 0 v5 x14).bind fun v6 => (ast p2.2 0 v4 x14 v6).bind fun h7 => (c32 (x14 + 1)).bind fun _ => fX12_better_216 k30 k62 k131 n x0 x1 x2 x4 x6 x8 x9 x10 x11 (x14 + 1) h7)
theorem tX12_better_216 {L : Nat} {xs : Nat → Int32} {l : Launch} {res : Int × Hp} (k30 : Nat → Int → Int → Int → Hp → Option (Int × Hp)) (k62 : Nat → Int → Int → Int → Int → Int → Int → Hp → Option (Int × Hp)) (k131 : Nat → Int → Int → Int → Int → Int → Int → Int → Int → Hp → Option (Int × Hp)) (hk30 : ∀ (x0 : Nat) (x1 : Int) (x2 : Int) (x3 : Int) (h : Hp), R32 x1 → R32 x2 → R32 x3 → k30 x0 x1 x2 x3 h = some res → J L xs l RX12 cX12_better 15 false 5 (QI res) 0 0 30 [(0, vr x0), (1, vi x1), (2, vi x2), (3, vi x3)] [] h) (hk62 : ∀ (x0 : Nat) (x1 : Int) (x2 : Int) (x4 : Int) (x6 : Int) (x8 : Int) (x9 : Int) (h : Hp), R32 x1 → R32 x2 → R64 x4 → R64 x6 → R32 x8 → R32 x9 → k62 x0 x1 x2 x4 x6 x8 x9 h = some res → J L xs l RX12 cX12_better 15 false 5 (QI res) 0 0 62 [(0, vr x0), (1, vi x1), (2, vi x2), (4, vl x4), (6, vl x6), (8, vi x8), (9, vi x9)] [] h) (hk131 : ∀ (x0 : Nat) (x1 : Int) (x2 : Int) (x4 : Int) (x6 : Int) (x8 : Int) (x9 : Int) (x10 : Int) (x11 : Int) (h : Hp), R32 x1 → R32 x2 → R64 x4 → R64 x6 → R32 x8 → R32 x9 → R32 x10 → R32 x11 → k131 x0 x1 x2 x4 x6 x8 x9 x10 x11 h = some res → J L xs l RX12 cX12_better 15 false 5 (QI res) 0 0 131 [(0, vr x0), (1, vi x1), (2, vi x2), (4, vl x4), (6, vl x6), (8, vi x8), (9, vi x9), (10, vi x10), (11, vi x11)] [] h) : ∀ (n : Nat) (x0 : Nat) (x1 : Int) (x2 : Int) (x4 : Int) (x6 : Int) (x8 : Int) (x9 : Int) (x10 : Int) (x11 : Int) (x14 : Int) (h : Hp), R32 x1 → R32 x2 → R64 x4 → R64 x6 → R32 x8 → R32 x9 → R32 x10 → R32 x11 → R32 x14 → fX12_better_216 k30 k62 k131 n x0 x1 x2 x4 x6 x8 x9 x10 x11 x14 h = some res → J L xs l RX12 cX12_better 15 false 5 (QI res) 0 0 216 [(0, vr x0), (1, vi x1), (2, vi x2), (4, vl x4), (6, vl x6), (8, vi x8), (9, vi x9), (10, vi x10), (11, vi x11), (14, vi x14)] [] h := by
  intro n
  induction n with
  | zero => intro x0 x1 x2 x4 x6 x8 x9 x10 x11 x14 h rx1 rx2 rx4 rx6 rx8 rx9 rx10 rx11 rx14 H; cases H
  | succ n ih =>
    intro x0 x1 x2 x4 x6 x8 x9 x10 x11 x14 h rx1 rx2 rx4 rx6 rx8 rx9 rx10 rx11 rx14 H
    rw [fX12_better_216] at H
    refine j_iload (pc' := 218) dX12_better_216 rfl 9 rfl ?_
    refine j_aload_n (i := 0) (pc' := 219) dX12_better_218 rfl rfl 0 rfl ?_
    obtain ⟨u1, e1, H⟩ := bs H
    obtain ⟨p2, e2, H⟩ := bs H
    refine j_cVi (y := yX12_n) (dY := 1) (vs := []) (st := [vi x14]) (q := x0) (pc' := 222) dX12_better_219 rfl ymX12_n yvX12_n ml_X12_90 (by decide) rfl (Nat.le_of_ble_eq_true rfl) (Nat.le_of_ble_eq_true rfl) e1 (tX12_n x0 h e2) (fun r2 z2 => ?_)
    refine j_icmp_ge (tgt := 245) (pc' := 225) dX12_better_222 (by decide) rfl rx14 r2 (fun c3 => ?_) (fun c3 => ?_)
    · rw [if_pos c3] at H
      refine j_sub (lv' := [(0, vr x0), (1, vi x1), (2, vi x2), (4, vl x4), (6, vl x6), (8, vi x8), (9, vi x9), (10, vi x10), (11, vi x11)]) [0, 1, 2, 3, 4, 5, 6, 7, 8] rfl ?_
      exact tX12_better_245 _ _ _ hk30 hk62 hk131 x0 x1 x2 x4 x6 x8 x9 x10 x11 p2.2 rx1 rx2 rx4 rx6 rx8 rx9 rx10 rx11 H
    · rw [if_neg c3] at H
      refine j_aload_n (i := 0) (pc' := 226) dX12_better_225 rfl rfl 0 rfl ?_
      obtain ⟨v4, e4, H⟩ := bs H
      refine j_getR (pc' := 229) dX12_better_226 rfl fl_X12_61 e4 (fun r4 => ?_)
      refine j_iload (pc' := 231) dX12_better_229 rfl 9 rfl ?_
      refine j_aload_n (i := 0) (pc' := 232) dX12_better_231 rfl rfl 0 rfl ?_
      obtain ⟨v5, e5, H⟩ := bs H
      refine j_getR (pc' := 235) dX12_better_232 rfl fl_X12_58 e5 (fun r5 => ?_)
      refine j_iload (pc' := 237) dX12_better_235 rfl 9 rfl ?_
      obtain ⟨v6, e6, H⟩ := bs H
      refine j_iald (pc' := 238) dX12_better_237 rfl e6 (fun r6 => ?_)
      obtain ⟨h7, e7, H⟩ := bs H
      refine j_iast (pc' := 239) dX12_better_238 rfl r6 e7 ?_
      obtain ⟨u8, e8, H⟩ := bs H
      have r8 := c32_R e8
      refine j_iinc (k0 := 9) (lv' := [(0, vr x0), (1, vi x1), (2, vi x2), (4, vl x4), (6, vl x6), (8, vi x8), (9, vi x9), (10, vi x10), (11, vi x11), (14, vi (x14 + 1))]) (pc' := 242) dX12_better_239 rfl rfl (by decide) [1, 2, 3, 4, 5, 6, 7, 8, 9, 0] rfl ?_
      refine j_goto (tgt := 216) dX12_better_242 (by decide) ?_
      exact ih x0 x1 x2 x4 x6 x8 x9 x10 x11 (x14 + 1) h7 rx1 rx2 rx4 rx6 rx8 rx9 rx10 rx11 r8 H
noncomputable def fX12_better_165 (k30 : Nat → Int → Int → Int → Hp → Option (Int × Hp)) (k62 : Nat → Int → Int → Int → Int → Int → Int → Hp → Option (Int × Hp)) (k131 : Nat → Int → Int → Int → Int → Int → Int → Int → Int → Hp → Option (Int × Hp)) (x0 : Nat) (x1 : Int) (x2 : Int) (x4 : Int) (x6 : Int) (x8 : Int) (x9 : Int) (x10 : Int) (x11 : Int) (h : Hp) : Option (Int × Hp) :=
  (cob h 11 x0).bind fun _ => (fX12_takeNow x0 h).bind fun h2 => (getR h2 11 x0 20).bind fun v3 => (ast h2 0 v3 x9 x11).bind fun h4 => (getR h4 11 x0 20).bind fun v5 => (cob h4 11 x0).bind fun _ => (fX12_number x0 v5 h4).bind fun p7 => (getR p7.2 11 x0 20).bind fun v8 => (cob p7.2 11 x0).bind fun _ => (fX12_costOf x0 v8 x1 p7.2).bind fun p10 => if (lCmp p10.1 x6) < 0 then (fX12_better_216 k30 k62 k131 FU x0 x1 x2 x4 p10.1 x8 x9 x10 x11 0 p10.2) else (fX12_better_245 k30 k62 k131 x0 x1 x2 x4 x6 x8 x9 x10 x11 p10.2)
theorem tX12_better_165 {L : Nat} {xs : Nat → Int32} {l : Launch} {res : Int × Hp} (k30 : Nat → Int → Int → Int → Hp → Option (Int × Hp)) (k62 : Nat → Int → Int → Int → Int → Int → Int → Hp → Option (Int × Hp)) (k131 : Nat → Int → Int → Int → Int → Int → Int → Int → Int → Hp → Option (Int × Hp)) (hk30 : ∀ (x0 : Nat) (x1 : Int) (x2 : Int) (x3 : Int) (h : Hp), R32 x1 → R32 x2 → R32 x3 → k30 x0 x1 x2 x3 h = some res → J L xs l RX12 cX12_better 15 false 5 (QI res) 0 0 30 [(0, vr x0), (1, vi x1), (2, vi x2), (3, vi x3)] [] h) (hk62 : ∀ (x0 : Nat) (x1 : Int) (x2 : Int) (x4 : Int) (x6 : Int) (x8 : Int) (x9 : Int) (h : Hp), R32 x1 → R32 x2 → R64 x4 → R64 x6 → R32 x8 → R32 x9 → k62 x0 x1 x2 x4 x6 x8 x9 h = some res → J L xs l RX12 cX12_better 15 false 5 (QI res) 0 0 62 [(0, vr x0), (1, vi x1), (2, vi x2), (4, vl x4), (6, vl x6), (8, vi x8), (9, vi x9)] [] h) (hk131 : ∀ (x0 : Nat) (x1 : Int) (x2 : Int) (x4 : Int) (x6 : Int) (x8 : Int) (x9 : Int) (x10 : Int) (x11 : Int) (h : Hp), R32 x1 → R32 x2 → R64 x4 → R64 x6 → R32 x8 → R32 x9 → R32 x10 → R32 x11 → k131 x0 x1 x2 x4 x6 x8 x9 x10 x11 h = some res → J L xs l RX12 cX12_better 15 false 5 (QI res) 0 0 131 [(0, vr x0), (1, vi x1), (2, vi x2), (4, vl x4), (6, vl x6), (8, vi x8), (9, vi x9), (10, vi x10), (11, vi x11)] [] h) (x0 : Nat) (x1 : Int) (x2 : Int) (x4 : Int) (x6 : Int) (x8 : Int) (x9 : Int) (x10 : Int) (x11 : Int) (h : Hp) (rx1 : R32 x1) (rx2 : R32 x2) (rx4 : R64 x4) (rx6 : R64 x6) (rx8 : R32 x8) (rx9 : R32 x9) (rx10 : R32 x10) (rx11 : R32 x11) (H : fX12_better_165 k30 k62 k131 x0 x1 x2 x4 x6 x8 x9 x10 x11 h = some res) : J L xs l RX12 cX12_better 15 false 5 (QI res) 0 0 165 [(0, vr x0), (1, vi x1), (2, vi x2), (4, vl x4), (6, vl x6), (8, vi x8), (9, vi x9), (10, vi x10), (11, vi x11)] [] h := by
  unfold fX12_better_165 at H
  refine j_aload_n (i := 0) (pc' := 166) dX12_better_165 rfl rfl 0 rfl ?_
  obtain ⟨u1, e1, H⟩ := bs H
  obtain ⟨h2, e2, H⟩ := bs H
  refine j_cVv (y := yX12_takeNow) (dY := 2) (vs := []) (st := []) (q := x0) (pc' := 169) dX12_better_166 rfl ymX12_takeNow yvX12_takeNow ml_X12_144 (by decide) rfl (Nat.le_of_ble_eq_true rfl) (Nat.le_of_ble_eq_true rfl) e1 (tX12_takeNow x0 h e2) (fun z2 => ?_)
  refine j_aload_n (i := 0) (pc' := 170) dX12_better_169 rfl rfl 0 rfl ?_
  obtain ⟨v3, e3, H⟩ := bs H
  refine j_getR (pc' := 173) dX12_better_170 rfl fl_X12_58 e3 (fun r3 => ?_)
  refine j_iload (pc' := 175) dX12_better_173 rfl 6 rfl ?_
  refine j_iload (pc' := 177) dX12_better_175 rfl 8 rfl ?_
  obtain ⟨h4, e4, H⟩ := bs H
  refine j_iast (pc' := 178) dX12_better_177 rfl rx11 e4 ?_
  refine j_aload_n (i := 0) (pc' := 179) dX12_better_178 rfl rfl 0 rfl ?_
  refine j_aload_n (i := 0) (pc' := 180) dX12_better_179 rfl rfl 0 rfl ?_
  obtain ⟨v5, e5, H⟩ := bs H
  refine j_getR (pc' := 183) dX12_better_180 rfl fl_X12_58 e5 (fun r5 => ?_)
  obtain ⟨u6, e6, H⟩ := bs H
  obtain ⟨p7, e7, H⟩ := bs H
  refine j_cVi (y := yX12_number) (dY := 2) (vs := [vr v5]) (st := []) (q := x0) (pc' := 186) dX12_better_183 rfl ymX12_number yvX12_number ml_X12_147 (by decide) rfl (Nat.le_of_ble_eq_true rfl) (Nat.le_of_ble_eq_true rfl) e6 (tX12_number x0 v5 h4 e7) (fun r7 z7 => ?_)
  refine j_pop (pc' := 187) dX12_better_186 rfl rfl ?_
  refine j_aload_n (i := 0) (pc' := 188) dX12_better_187 rfl rfl 0 rfl ?_
  refine j_aload_n (i := 0) (pc' := 189) dX12_better_188 rfl rfl 0 rfl ?_
  obtain ⟨v8, e8, H⟩ := bs H
  refine j_getR (pc' := 192) dX12_better_189 rfl fl_X12_58 e8 (fun r8 => ?_)
  refine j_iload_n (i := 1) (pc' := 193) dX12_better_192 rfl rfl 1 rfl ?_
  obtain ⟨u9, e9, H⟩ := bs H
  obtain ⟨p10, e10, H⟩ := bs H
  refine j_cVl (y := yX12_costOf) (dY := 4) (vs := [vr v8, vi x1]) (st := []) (q := x0) (pc' := 196) dX12_better_193 rfl ymX12_costOf yvX12_costOf ml_X12_163 (by decide) rfl (Nat.le_of_ble_eq_true rfl) (Nat.le_of_ble_eq_true rfl) e9 (tX12_costOf x0 v8 x1 p7.2 rx1 e10) (fun r10 z10 => ?_)
  refine j_lstore (lv' := [(0, vr x0), (1, vi x1), (2, vi x2), (4, vl x4), (6, vl x6), (8, vi x8), (9, vi x9), (10, vi x10), (11, vi x11), (12, vl p10.1)]) (pc' := 198) dX12_better_196 rfl (by decide) [1, 2, 3, 4, 5, 6, 7, 8, 9, 0] rfl ?_
  refine j_lload (pc' := 200) dX12_better_198 rfl 9 rfl ?_
  refine j_lload (pc' := 202) dX12_better_200 rfl 4 rfl ?_
  refine j_lcmp (pc' := 203) dX12_better_202 rfl r10 rx6 ?_
  refine j_if_lt (tgt := 209) (pc' := 206) dX12_better_203 (by decide) rfl (R32_lcmp _ _) (fun c11 => ?_) (fun c11 => ?_)
  · rw [if_pos c11] at H
    refine j_lload (pc' := 211) dX12_better_209 rfl 9 rfl ?_
    refine j_lstore (lv' := [(0, vr x0), (1, vi x1), (2, vi x2), (4, vl x4), (6, vl p10.1), (8, vi x8), (9, vi x9), (10, vi x10), (11, vi x11), (12, vl p10.1)]) (pc' := 213) dX12_better_211 rfl (by decide) [1, 2, 3, 4, 0, 5, 6, 7, 8, 9] rfl ?_
    refine j_iconst (pc' := 214) dX12_better_213 rfl ?_
    refine j_istore (lv' := [(0, vr x0), (1, vi x1), (2, vi x2), (4, vl x4), (6, vl p10.1), (8, vi x8), (9, vi x9), (10, vi x10), (11, vi x11), (12, vl p10.1), (14, vi 0)]) (pc' := 216) dX12_better_214 rfl (by decide) [1, 2, 3, 4, 5, 6, 7, 8, 9, 10, 0] rfl ?_
    refine j_sub (lv' := [(0, vr x0), (1, vi x1), (2, vi x2), (4, vl x4), (6, vl p10.1), (8, vi x8), (9, vi x9), (10, vi x10), (11, vi x11), (14, vi 0)]) [0, 1, 2, 3, 4, 5, 6, 7, 8, 10] rfl ?_
    exact tX12_better_216 _ _ _ hk30 hk62 hk131 FU x0 x1 x2 x4 p10.1 x8 x9 x10 x11 0 p10.2 rx1 rx2 rx4 r10 rx8 rx9 rx10 rx11 ⟨by decide, by decide⟩ H
  · rw [if_neg c11] at H
    refine j_goto (tgt := 245) dX12_better_206 (by decide) ?_
    refine j_sub (lv' := [(0, vr x0), (1, vi x1), (2, vi x2), (4, vl x4), (6, vl x6), (8, vi x8), (9, vi x9), (10, vi x10), (11, vi x11)]) [0, 1, 2, 3, 4, 5, 6, 7, 8] rfl ?_
    exact tX12_better_245 _ _ _ hk30 hk62 hk131 x0 x1 x2 x4 x6 x8 x9 x10 x11 p10.2 rx1 rx2 rx4 rx6 rx8 rx9 rx10 rx11 H
noncomputable def fX12_better_131 (k30 : Nat → Int → Int → Int → Hp → Option (Int × Hp)) (k62 : Nat → Int → Int → Int → Int → Int → Int → Hp → Option (Int × Hp)) : Nat → Nat → Int → Int → Int → Int → Int → Int → Int → Int → Hp → Option (Int × Hp)
  | 0, _, _, _, _, _, _, _, _, _, _ => none
  | n + 1, x0, x1, x2, x4, x6, x8, x9, x10, x11, h => if x8 < x11 then (fX12_better_251 k30 k62 x0 x1 x2 x4 x6 x8 x9 h) else ((getR h 11 x0 5).bind fun v2 => (ald h 0 v2 x9).bind fun v3 => if x11 = v3 then (fX12_better_245 k30 k62 (fX12_better_131 k30 k62 n) x0 x1 x2 x4 x6 x8 x9 x10 x11 h) else (if x11 = x8 then (if x10 = 0 then (fX12_better_165 k30 k62 (fX12_better_131 k30 k62 n) x0 x1 x2 x4 x6 x8 x9 x10 x11 h) else (fX12_better_245 k30 k62 (fX12_better_131 k30 k62 n) x0 x1 x2 x4 x6 x8 x9 x10 x11 h)) else (fX12_better_165 k30 k62 (fX12_better_131 k30 k62 n) x0 x1 x2 x4 x6 x8 x9 x10 x11 h)))
theorem tX12_better_131 {L : Nat} {xs : Nat → Int32} {l : Launch} {res : Int × Hp} (k30 : Nat → Int → Int → Int → Hp → Option (Int × Hp)) (k62 : Nat → Int → Int → Int → Int → Int → Int → Hp → Option (Int × Hp)) (hk30 : ∀ (x0 : Nat) (x1 : Int) (x2 : Int) (x3 : Int) (h : Hp), R32 x1 → R32 x2 → R32 x3 → k30 x0 x1 x2 x3 h = some res → J L xs l RX12 cX12_better 15 false 5 (QI res) 0 0 30 [(0, vr x0), (1, vi x1), (2, vi x2), (3, vi x3)] [] h) (hk62 : ∀ (x0 : Nat) (x1 : Int) (x2 : Int) (x4 : Int) (x6 : Int) (x8 : Int) (x9 : Int) (h : Hp), R32 x1 → R32 x2 → R64 x4 → R64 x6 → R32 x8 → R32 x9 → k62 x0 x1 x2 x4 x6 x8 x9 h = some res → J L xs l RX12 cX12_better 15 false 5 (QI res) 0 0 62 [(0, vr x0), (1, vi x1), (2, vi x2), (4, vl x4), (6, vl x6), (8, vi x8), (9, vi x9)] [] h) : ∀ (n : Nat) (x0 : Nat) (x1 : Int) (x2 : Int) (x4 : Int) (x6 : Int) (x8 : Int) (x9 : Int) (x10 : Int) (x11 : Int) (h : Hp), R32 x1 → R32 x2 → R64 x4 → R64 x6 → R32 x8 → R32 x9 → R32 x10 → R32 x11 → fX12_better_131 k30 k62 n x0 x1 x2 x4 x6 x8 x9 x10 x11 h = some res → J L xs l RX12 cX12_better 15 false 5 (QI res) 0 0 131 [(0, vr x0), (1, vi x1), (2, vi x2), (4, vl x4), (6, vl x6), (8, vi x8), (9, vi x9), (10, vi x10), (11, vi x11)] [] h := by
  intro n
  induction n with
  | zero => intro x0 x1 x2 x4 x6 x8 x9 x10 x11 h rx1 rx2 rx4 rx6 rx8 rx9 rx10 rx11 H; cases H
  | succ n ih =>
    intro x0 x1 x2 x4 x6 x8 x9 x10 x11 h rx1 rx2 rx4 rx6 rx8 rx9 rx10 rx11 H
    rw [fX12_better_131] at H
    refine j_iload (pc' := 133) dX12_better_131 rfl 8 rfl ?_
    refine j_iload (pc' := 135) dX12_better_133 rfl 5 rfl ?_
    refine j_icmp_gt (tgt := 251) (pc' := 138) dX12_better_135 (by decide) rfl rx11 rx8 (fun c1 => ?_) (fun c1 => ?_)
    · rw [if_pos c1] at H
      refine j_sub (lv' := [(0, vr x0), (1, vi x1), (2, vi x2), (4, vl x4), (6, vl x6), (8, vi x8), (9, vi x9)]) [0, 1, 2, 3, 4, 5, 6] rfl ?_
      exact tX12_better_251 _ _ hk30 hk62 x0 x1 x2 x4 x6 x8 x9 h rx1 rx2 rx4 rx6 rx8 rx9 H
    · rw [if_neg c1] at H
      refine j_iload (pc' := 140) dX12_better_138 rfl 8 rfl ?_
      refine j_aload_n (i := 0) (pc' := 141) dX12_better_140 rfl rfl 0 rfl ?_
      obtain ⟨v2, e2, H⟩ := bs H
      refine j_getR (pc' := 144) dX12_better_141 rfl fl_X12_26 e2 (fun r2 => ?_)
      refine j_iload (pc' := 146) dX12_better_144 rfl 6 rfl ?_
      obtain ⟨v3, e3, H⟩ := bs H
      refine j_iald (pc' := 147) dX12_better_146 rfl e3 (fun r3 => ?_)
      refine j_icmp_eq (tgt := 245) (pc' := 150) dX12_better_147 (by decide) rfl rx11 r3 (fun c4 => ?_) (fun c4 => ?_)
      · rw [if_pos c4] at H
        exact tX12_better_245 _ _ _ hk30 hk62 ih x0 x1 x2 x4 x6 x8 x9 x10 x11 h rx1 rx2 rx4 rx6 rx8 rx9 rx10 rx11 H
      · rw [if_neg c4] at H
        refine j_iload (pc' := 152) dX12_better_150 rfl 8 rfl ?_
        refine j_iload (pc' := 154) dX12_better_152 rfl 5 rfl ?_
        refine j_icmp_ne (tgt := 165) (pc' := 157) dX12_better_154 (by decide) rfl rx11 rx8 (fun c5 => ?_) (fun c5 => ?_)
        · rw [if_neg c5] at H
          exact tX12_better_165 _ _ _ hk30 hk62 ih x0 x1 x2 x4 x6 x8 x9 x10 x11 h rx1 rx2 rx4 rx6 rx8 rx9 rx10 rx11 H
        · rw [if_pos c5] at H
          refine j_iload (pc' := 159) dX12_better_157 rfl 7 rfl ?_
          refine j_if_eq (tgt := 165) (pc' := 162) dX12_better_159 (by decide) rfl rx10 (fun c6 => ?_) (fun c6 => ?_)
          · rw [if_pos c6] at H
            exact tX12_better_165 _ _ _ hk30 hk62 ih x0 x1 x2 x4 x6 x8 x9 x10 x11 h rx1 rx2 rx4 rx6 rx8 rx9 rx10 rx11 H
          · rw [if_neg c6] at H
            refine j_goto (tgt := 245) dX12_better_162 (by decide) ?_
            exact tX12_better_245 _ _ _ hk30 hk62 ih x0 x1 x2 x4 x6 x8 x9 x10 x11 h rx1 rx2 rx4 rx6 rx8 rx9 rx10 rx11 H
noncomputable def fX12_better_128 (k30 : Nat → Int → Int → Int → Hp → Option (Int × Hp)) (k62 : Nat → Int → Int → Int → Int → Int → Int → Hp → Option (Int × Hp)) (x0 : Nat) (x1 : Int) (x2 : Int) (x4 : Int) (x6 : Int) (x8 : Int) (x9 : Int) (x10 : Int) (h : Hp) : Option (Int × Hp) :=
  fX12_better_131 k30 k62 FU x0 x1 x2 x4 x6 x8 x9 x10 0 h
theorem tX12_better_128 {L : Nat} {xs : Nat → Int32} {l : Launch} {res : Int × Hp} (k30 : Nat → Int → Int → Int → Hp → Option (Int × Hp)) (k62 : Nat → Int → Int → Int → Int → Int → Int → Hp → Option (Int × Hp)) (hk30 : ∀ (x0 : Nat) (x1 : Int) (x2 : Int) (x3 : Int) (h : Hp), R32 x1 → R32 x2 → R32 x3 → k30 x0 x1 x2 x3 h = some res → J L xs l RX12 cX12_better 15 false 5 (QI res) 0 0 30 [(0, vr x0), (1, vi x1), (2, vi x2), (3, vi x3)] [] h) (hk62 : ∀ (x0 : Nat) (x1 : Int) (x2 : Int) (x4 : Int) (x6 : Int) (x8 : Int) (x9 : Int) (h : Hp), R32 x1 → R32 x2 → R64 x4 → R64 x6 → R32 x8 → R32 x9 → k62 x0 x1 x2 x4 x6 x8 x9 h = some res → J L xs l RX12 cX12_better 15 false 5 (QI res) 0 0 62 [(0, vr x0), (1, vi x1), (2, vi x2), (4, vl x4), (6, vl x6), (8, vi x8), (9, vi x9)] [] h) (x0 : Nat) (x1 : Int) (x2 : Int) (x4 : Int) (x6 : Int) (x8 : Int) (x9 : Int) (x10 : Int) (h : Hp) (rx1 : R32 x1) (rx2 : R32 x2) (rx4 : R64 x4) (rx6 : R64 x6) (rx8 : R32 x8) (rx9 : R32 x9) (rx10 : R32 x10) (H : fX12_better_128 k30 k62 x0 x1 x2 x4 x6 x8 x9 x10 h = some res) : J L xs l RX12 cX12_better 15 false 5 (QI res) 0 0 128 [(0, vr x0), (1, vi x1), (2, vi x2), (4, vl x4), (6, vl x6), (8, vi x8), (9, vi x9), (10, vi x10)] [] h := by
  unfold fX12_better_128 at H
  refine j_iconst (pc' := 129) dX12_better_128 rfl ?_
  refine j_istore (lv' := [(0, vr x0), (1, vi x1), (2, vi x2), (4, vl x4), (6, vl x6), (8, vi x8), (9, vi x9), (10, vi x10), (11, vi 0)]) (pc' := 131) dX12_better_129 rfl (by decide) [1, 2, 3, 4, 5, 6, 7, 8, 0] rfl ?_
  exact tX12_better_131 _ _ hk30 hk62 FU x0 x1 x2 x4 x6 x8 x9 x10 0 h rx1 rx2 rx4 rx6 rx8 rx9 rx10 ⟨by decide, by decide⟩ H
noncomputable def fX12_better_120 (k30 : Nat → Int → Int → Int → Hp → Option (Int × Hp)) (k62 : Nat → Int → Int → Int → Int → Int → Int → Hp → Option (Int × Hp)) (k77 : Nat → Int → Int → Int → Int → Int → Int → Int → Int → Hp → Option (Int × Hp)) (x0 : Nat) (x1 : Int) (x2 : Int) (x4 : Int) (x6 : Int) (x8 : Int) (x9 : Int) (x11 : Int) (s0 : Int) (h : Hp) : Option (Int × Hp) :=
  (c32 (x11 + 1)).bind fun _ => k77 x0 x1 x2 x4 x6 x8 x9 s0 (x11 + 1) h
theorem tX12_better_120 {L : Nat} {xs : Nat → Int32} {l : Launch} {res : Int × Hp} (k30 : Nat → Int → Int → Int → Hp → Option (Int × Hp)) (k62 : Nat → Int → Int → Int → Int → Int → Int → Hp → Option (Int × Hp)) (k77 : Nat → Int → Int → Int → Int → Int → Int → Int → Int → Hp → Option (Int × Hp)) (hk30 : ∀ (x0 : Nat) (x1 : Int) (x2 : Int) (x3 : Int) (h : Hp), R32 x1 → R32 x2 → R32 x3 → k30 x0 x1 x2 x3 h = some res → J L xs l RX12 cX12_better 15 false 5 (QI res) 0 0 30 [(0, vr x0), (1, vi x1), (2, vi x2), (3, vi x3)] [] h) (hk62 : ∀ (x0 : Nat) (x1 : Int) (x2 : Int) (x4 : Int) (x6 : Int) (x8 : Int) (x9 : Int) (h : Hp), R32 x1 → R32 x2 → R64 x4 → R64 x6 → R32 x8 → R32 x9 → k62 x0 x1 x2 x4 x6 x8 x9 h = some res → J L xs l RX12 cX12_better 15 false 5 (QI res) 0 0 62 [(0, vr x0), (1, vi x1), (2, vi x2), (4, vl x4), (6, vl x6), (8, vi x8), (9, vi x9)] [] h) (hk77 : ∀ (x0 : Nat) (x1 : Int) (x2 : Int) (x4 : Int) (x6 : Int) (x8 : Int) (x9 : Int) (x10 : Int) (x11 : Int) (h : Hp), R32 x1 → R32 x2 → R64 x4 → R64 x6 → R32 x8 → R32 x9 → R32 x10 → R32 x11 → k77 x0 x1 x2 x4 x6 x8 x9 x10 x11 h = some res → J L xs l RX12 cX12_better 15 false 5 (QI res) 0 0 77 [(0, vr x0), (1, vi x1), (2, vi x2), (4, vl x4), (6, vl x6), (8, vi x8), (9, vi x9), (10, vi x10), (11, vi x11)] [] h) (x0 : Nat) (x1 : Int) (x2 : Int) (x4 : Int) (x6 : Int) (x8 : Int) (x9 : Int) (x11 : Int) (s0 : Int) (h : Hp) (rx1 : R32 x1) (rx2 : R32 x2) (rx4 : R64 x4) (rx6 : R64 x6) (rx8 : R32 x8) (rx9 : R32 x9) (rx11 : R32 x11) (rs0 : R32 s0) (H : fX12_better_120 k30 k62 k77 x0 x1 x2 x4 x6 x8 x9 x11 s0 h = some res) : J L xs l RX12 cX12_better 15 false 5 (QI res) 0 0 120 [(0, vr x0), (1, vi x1), (2, vi x2), (4, vl x4), (6, vl x6), (8, vi x8), (9, vi x9), (11, vi x11)] [vi s0] h := by
  unfold fX12_better_120 at H
  refine j_istore (lv' := [(0, vr x0), (1, vi x1), (2, vi x2), (4, vl x4), (6, vl x6), (8, vi x8), (9, vi x9), (10, vi s0), (11, vi x11)]) (pc' := 122) dX12_better_120 rfl (by decide) [1, 2, 3, 4, 5, 6, 7, 0, 8] rfl ?_
  obtain ⟨u1, e1, H⟩ := bs H
  have r1 := c32_R e1
  refine j_iinc (k0 := 8) (lv' := [(0, vr x0), (1, vi x1), (2, vi x2), (4, vl x4), (6, vl x6), (8, vi x8), (9, vi x9), (10, vi s0), (11, vi (x11 + 1))]) (pc' := 125) dX12_better_122 rfl rfl (by decide) [1, 2, 3, 4, 5, 6, 7, 8, 0] rfl ?_
  refine j_goto (tgt := 77) dX12_better_125 (by decide) ?_
  exact hk77 x0 x1 x2 x4 x6 x8 x9 s0 (x11 + 1) h rx1 rx2 rx4 rx6 rx8 rx9 rs0 r1 H
noncomputable def fX12_better_119 (k30 : Nat → Int → Int → Int → Hp → Option (Int × Hp)) (k62 : Nat → Int → Int → Int → Int → Int → Int → Hp → Option (Int × Hp)) (k77 : Nat → Int → Int → Int → Int → Int → Int → Int → Int → Hp → Option (Int × Hp)) (x0 : Nat) (x1 : Int) (x2 : Int) (x4 : Int) (x6 : Int) (x8 : Int) (x9 : Int) (x11 : Int) (h : Hp) : Option (Int × Hp) :=
  fX12_better_120 k30 k62 k77 x0 x1 x2 x4 x6 x8 x9 x11 0 h
theorem tX12_better_119 {L : Nat} {xs : Nat → Int32} {l : Launch} {res : Int × Hp} (k30 : Nat → Int → Int → Int → Hp → Option (Int × Hp)) (k62 : Nat → Int → Int → Int → Int → Int → Int → Hp → Option (Int × Hp)) (k77 : Nat → Int → Int → Int → Int → Int → Int → Int → Int → Hp → Option (Int × Hp)) (hk30 : ∀ (x0 : Nat) (x1 : Int) (x2 : Int) (x3 : Int) (h : Hp), R32 x1 → R32 x2 → R32 x3 → k30 x0 x1 x2 x3 h = some res → J L xs l RX12 cX12_better 15 false 5 (QI res) 0 0 30 [(0, vr x0), (1, vi x1), (2, vi x2), (3, vi x3)] [] h) (hk62 : ∀ (x0 : Nat) (x1 : Int) (x2 : Int) (x4 : Int) (x6 : Int) (x8 : Int) (x9 : Int) (h : Hp), R32 x1 → R32 x2 → R64 x4 → R64 x6 → R32 x8 → R32 x9 → k62 x0 x1 x2 x4 x6 x8 x9 h = some res → J L xs l RX12 cX12_better 15 false 5 (QI res) 0 0 62 [(0, vr x0), (1, vi x1), (2, vi x2), (4, vl x4), (6, vl x6), (8, vi x8), (9, vi x9)] [] h) (hk77 : ∀ (x0 : Nat) (x1 : Int) (x2 : Int) (x4 : Int) (x6 : Int) (x8 : Int) (x9 : Int) (x10 : Int) (x11 : Int) (h : Hp), R32 x1 → R32 x2 → R64 x4 → R64 x6 → R32 x8 → R32 x9 → R32 x10 → R32 x11 → k77 x0 x1 x2 x4 x6 x8 x9 x10 x11 h = some res → J L xs l RX12 cX12_better 15 false 5 (QI res) 0 0 77 [(0, vr x0), (1, vi x1), (2, vi x2), (4, vl x4), (6, vl x6), (8, vi x8), (9, vi x9), (10, vi x10), (11, vi x11)] [] h) (x0 : Nat) (x1 : Int) (x2 : Int) (x4 : Int) (x6 : Int) (x8 : Int) (x9 : Int) (x11 : Int) (h : Hp) (rx1 : R32 x1) (rx2 : R32 x2) (rx4 : R64 x4) (rx6 : R64 x6) (rx8 : R32 x8) (rx9 : R32 x9) (rx11 : R32 x11) (H : fX12_better_119 k30 k62 k77 x0 x1 x2 x4 x6 x8 x9 x11 h = some res) : J L xs l RX12 cX12_better 15 false 5 (QI res) 0 0 119 [(0, vr x0), (1, vi x1), (2, vi x2), (4, vl x4), (6, vl x6), (8, vi x8), (9, vi x9), (11, vi x11)] [] h := by
  unfold fX12_better_119 at H
  refine j_iconst (pc' := 120) dX12_better_119 rfl ?_
  exact tX12_better_120 _ _ _ hk30 hk62 hk77 x0 x1 x2 x4 x6 x8 x9 x11 0 h rx1 rx2 rx4 rx6 rx8 rx9 rx11 ⟨by decide, by decide⟩ H
noncomputable def fX12_better_115 (k30 : Nat → Int → Int → Int → Hp → Option (Int × Hp)) (k62 : Nat → Int → Int → Int → Int → Int → Int → Hp → Option (Int × Hp)) (k77 : Nat → Int → Int → Int → Int → Int → Int → Int → Int → Hp → Option (Int × Hp)) (x0 : Nat) (x1 : Int) (x2 : Int) (x4 : Int) (x6 : Int) (x8 : Int) (x9 : Int) (x11 : Int) (h : Hp) : Option (Int × Hp) :=
  fX12_better_120 k30 k62 k77 x0 x1 x2 x4 x6 x8 x9 x11 1 h
theorem tX12_better_115 {L : Nat} {xs : Nat → Int32} {l : Launch} {res : Int × Hp} (k30 : Nat → Int → Int → Int → Hp → Option (Int × Hp)) (k62 : Nat → Int → Int → Int → Int → Int → Int → Hp → Option (Int × Hp)) (k77 : Nat → Int → Int → Int → Int → Int → Int → Int → Int → Hp → Option (Int × Hp)) (hk30 : ∀ (x0 : Nat) (x1 : Int) (x2 : Int) (x3 : Int) (h : Hp), R32 x1 → R32 x2 → R32 x3 → k30 x0 x1 x2 x3 h = some res → J L xs l RX12 cX12_better 15 false 5 (QI res) 0 0 30 [(0, vr x0), (1, vi x1), (2, vi x2), (3, vi x3)] [] h) (hk62 : ∀ (x0 : Nat) (x1 : Int) (x2 : Int) (x4 : Int) (x6 : Int) (x8 : Int) (x9 : Int) (h : Hp), R32 x1 → R32 x2 → R64 x4 → R64 x6 → R32 x8 → R32 x9 → k62 x0 x1 x2 x4 x6 x8 x9 h = some res → J L xs l RX12 cX12_better 15 false 5 (QI res) 0 0 62 [(0, vr x0), (1, vi x1), (2, vi x2), (4, vl x4), (6, vl x6), (8, vi x8), (9, vi x9)] [] h) (hk77 : ∀ (x0 : Nat) (x1 : Int) (x2 : Int) (x4 : Int) (x6 : Int) (x8 : Int) (x9 : Int) (x10 : Int) (x11 : Int) (h : Hp), R32 x1 → R32 x2 → R64 x4 → R64 x6 → R32 x8 → R32 x9 → R32 x10 → R32 x11 → k77 x0 x1 x2 x4 x6 x8 x9 x10 x11 h = some res → J L xs l RX12 cX12_better 15 false 5 (QI res) 0 0 77 [(0, vr x0), (1, vi x1), (2, vi x2), (4, vl x4), (6, vl x6), (8, vi x8), (9, vi x9), (10, vi x10), (11, vi x11)] [] h) (x0 : Nat) (x1 : Int) (x2 : Int) (x4 : Int) (x6 : Int) (x8 : Int) (x9 : Int) (x11 : Int) (h : Hp) (rx1 : R32 x1) (rx2 : R32 x2) (rx4 : R64 x4) (rx6 : R64 x6) (rx8 : R32 x8) (rx9 : R32 x9) (rx11 : R32 x11) (H : fX12_better_115 k30 k62 k77 x0 x1 x2 x4 x6 x8 x9 x11 h = some res) : J L xs l RX12 cX12_better 15 false 5 (QI res) 0 0 115 [(0, vr x0), (1, vi x1), (2, vi x2), (4, vl x4), (6, vl x6), (8, vi x8), (9, vi x9), (11, vi x11)] [] h := by
  unfold fX12_better_115 at H
  refine j_iconst (pc' := 116) dX12_better_115 rfl ?_
  refine j_goto (tgt := 120) dX12_better_116 (by decide) ?_
  exact tX12_better_120 _ _ _ hk30 hk62 hk77 x0 x1 x2 x4 x6 x8 x9 x11 1 h rx1 rx2 rx4 rx6 rx8 rx9 rx11 ⟨by decide, by decide⟩ H
noncomputable def fX12_better_77 (k30 : Nat → Int → Int → Int → Hp → Option (Int × Hp)) (k62 : Nat → Int → Int → Int → Int → Int → Int → Hp → Option (Int × Hp)) : Nat → Nat → Int → Int → Int → Int → Int → Int → Int → Int → Hp → Option (Int × Hp)
  | 0, _, _, _, _, _, _, _, _, _, _ => none
  | n + 1, x0, x1, x2, x4, x6, x8, x9, x10, x11, h => (cob h 11 x0).bind fun _ => (fX12_n x0 h).bind fun p2 => if p2.1 ≤ x11 then (fX12_better_128 k30 k62 x0 x1 x2 x4 x6 x8 x9 x10 p2.2) else (if x10 = 0 then (fX12_better_119 k30 k62 (fX12_better_77 k30 k62 n) x0 x1 x2 x4 x6 x8 x9 x11 p2.2) else (if x11 = x9 then (fX12_better_115 k30 k62 (fX12_better_77 k30 k62 n) x0 x1 x2 x4 x6 x8 x9 x11 p2.2) else ((getR p2.2 11 x0 5).bind fun v6 => (ald p2.2 0 v6 x11).bind fun v7 => (getR p2.2 11 x0 5).bind fun v8 => (ald p2.2 0 v8 x9).bind fun v9 => if v7 = v9 then (fX12_better_119 k30 k62 (fX12_better_77 k30 k62 n) x0 x1 x2 x4 x6 x8 x9 x11 p2.2) else (fX12_better_115 k30 k62 (fX12_better_77 k30 k62 n) x0 x1 x2 x4 x6 x8 x9 x11 p2.2))))
theorem tX12_better_77 {L : Nat} {xs : Nat → Int32} {l : Launch} {res : Int × Hp} (k30 : Nat → Int → Int → Int → Hp → Option (Int × Hp)) (k62 : Nat → Int → Int → Int → Int → Int → Int → Hp → Option (Int × Hp)) (hk30 : ∀ (x0 : Nat) (x1 : Int) (x2 : Int) (x3 : Int) (h : Hp), R32 x1 → R32 x2 → R32 x3 → k30 x0 x1 x2 x3 h = some res → J L xs l RX12 cX12_better 15 false 5 (QI res) 0 0 30 [(0, vr x0), (1, vi x1), (2, vi x2), (3, vi x3)] [] h) (hk62 : ∀ (x0 : Nat) (x1 : Int) (x2 : Int) (x4 : Int) (x6 : Int) (x8 : Int) (x9 : Int) (h : Hp), R32 x1 → R32 x2 → R64 x4 → R64 x6 → R32 x8 → R32 x9 → k62 x0 x1 x2 x4 x6 x8 x9 h = some res → J L xs l RX12 cX12_better 15 false 5 (QI res) 0 0 62 [(0, vr x0), (1, vi x1), (2, vi x2), (4, vl x4), (6, vl x6), (8, vi x8), (9, vi x9)] [] h) : ∀ (n : Nat) (x0 : Nat) (x1 : Int) (x2 : Int) (x4 : Int) (x6 : Int) (x8 : Int) (x9 : Int) (x10 : Int) (x11 : Int) (h : Hp), R32 x1 → R32 x2 → R64 x4 → R64 x6 → R32 x8 → R32 x9 → R32 x10 → R32 x11 → fX12_better_77 k30 k62 n x0 x1 x2 x4 x6 x8 x9 x10 x11 h = some res → J L xs l RX12 cX12_better 15 false 5 (QI res) 0 0 77 [(0, vr x0), (1, vi x1), (2, vi x2), (4, vl x4), (6, vl x6), (8, vi x8), (9, vi x9), (10, vi x10), (11, vi x11)] [] h := by
  intro n
  induction n with
  | zero => intro x0 x1 x2 x4 x6 x8 x9 x10 x11 h rx1 rx2 rx4 rx6 rx8 rx9 rx10 rx11 H; cases H
  | succ n ih =>
    intro x0 x1 x2 x4 x6 x8 x9 x10 x11 h rx1 rx2 rx4 rx6 rx8 rx9 rx10 rx11 H
    rw [fX12_better_77] at H
    refine j_iload (pc' := 79) dX12_better_77 rfl 8 rfl ?_
    refine j_aload_n (i := 0) (pc' := 80) dX12_better_79 rfl rfl 0 rfl ?_
    obtain ⟨u1, e1, H⟩ := bs H
    obtain ⟨p2, e2, H⟩ := bs H
    refine j_cVi (y := yX12_n) (dY := 1) (vs := []) (st := [vi x11]) (q := x0) (pc' := 83) dX12_better_80 rfl ymX12_n yvX12_n ml_X12_90 (by decide) rfl (Nat.le_of_ble_eq_true rfl) (Nat.le_of_ble_eq_true rfl) e1 (tX12_n x0 h e2) (fun r2 z2 => ?_)
    refine j_icmp_ge (tgt := 128) (pc' := 86) dX12_better_83 (by decide) rfl rx11 r2 (fun c3 => ?_) (fun c3 => ?_)
    · rw [if_pos c3] at H
      refine j_sub (lv' := [(0, vr x0), (1, vi x1), (2, vi x2), (4, vl x4), (6, vl x6), (8, vi x8), (9, vi x9), (10, vi x10)]) [0, 1, 2, 3, 4, 5, 6, 7] rfl ?_
      exact tX12_better_128 _ _ hk30 hk62 x0 x1 x2 x4 x6 x8 x9 x10 p2.2 rx1 rx2 rx4 rx6 rx8 rx9 rx10 H
    · rw [if_neg c3] at H
      refine j_iload (pc' := 88) dX12_better_86 rfl 7 rfl ?_
      refine j_if_eq (tgt := 119) (pc' := 91) dX12_better_88 (by decide) rfl rx10 (fun c4 => ?_) (fun c4 => ?_)
      · rw [if_pos c4] at H
        refine j_sub (lv' := [(0, vr x0), (1, vi x1), (2, vi x2), (4, vl x4), (6, vl x6), (8, vi x8), (9, vi x9), (11, vi x11)]) [0, 1, 2, 3, 4, 5, 6, 8] rfl ?_
        exact tX12_better_119 _ _ _ hk30 hk62 ih x0 x1 x2 x4 x6 x8 x9 x11 p2.2 rx1 rx2 rx4 rx6 rx8 rx9 rx11 H
      · rw [if_neg c4] at H
        refine j_iload (pc' := 93) dX12_better_91 rfl 8 rfl ?_
        refine j_iload (pc' := 95) dX12_better_93 rfl 6 rfl ?_
        refine j_icmp_eq (tgt := 115) (pc' := 98) dX12_better_95 (by decide) rfl rx11 rx9 (fun c5 => ?_) (fun c5 => ?_)
        · rw [if_pos c5] at H
          refine j_sub (lv' := [(0, vr x0), (1, vi x1), (2, vi x2), (4, vl x4), (6, vl x6), (8, vi x8), (9, vi x9), (11, vi x11)]) [0, 1, 2, 3, 4, 5, 6, 8] rfl ?_
          exact tX12_better_115 _ _ _ hk30 hk62 ih x0 x1 x2 x4 x6 x8 x9 x11 p2.2 rx1 rx2 rx4 rx6 rx8 rx9 rx11 H
        · rw [if_neg c5] at H
          refine j_aload_n (i := 0) (pc' := 99) dX12_better_98 rfl rfl 0 rfl ?_
          obtain ⟨v6, e6, H⟩ := bs H
          refine j_getR (pc' := 102) dX12_better_99 rfl fl_X12_26 e6 (fun r6 => ?_)
          refine j_iload (pc' := 104) dX12_better_102 rfl 8 rfl ?_
          obtain ⟨v7, e7, H⟩ := bs H
          refine j_iald (pc' := 105) dX12_better_104 rfl e7 (fun r7 => ?_)
          refine j_aload_n (i := 0) (pc' := 106) dX12_better_105 rfl rfl 0 rfl ?_
          obtain ⟨v8, e8, H⟩ := bs H
          refine j_getR (pc' := 109) dX12_better_106 rfl fl_X12_26 e8 (fun r8 => ?_)
          refine j_iload (pc' := 111) dX12_better_109 rfl 6 rfl ?_
          obtain ⟨v9, e9, H⟩ := bs H
          refine j_iald (pc' := 112) dX12_better_111 rfl e9 (fun r9 => ?_)
          refine j_icmp_eq (tgt := 119) (pc' := 115) dX12_better_112 (by decide) rfl r7 r9 (fun c10 => ?_) (fun c10 => ?_)
          · rw [if_pos c10] at H
            refine j_sub (lv' := [(0, vr x0), (1, vi x1), (2, vi x2), (4, vl x4), (6, vl x6), (8, vi x8), (9, vi x9), (11, vi x11)]) [0, 1, 2, 3, 4, 5, 6, 8] rfl ?_
            exact tX12_better_119 _ _ _ hk30 hk62 ih x0 x1 x2 x4 x6 x8 x9 x11 p2.2 rx1 rx2 rx4 rx6 rx8 rx9 rx11 H
          · rw [if_neg c10] at H
            refine j_sub (lv' := [(0, vr x0), (1, vi x1), (2, vi x2), (4, vl x4), (6, vl x6), (8, vi x8), (9, vi x9), (11, vi x11)]) [0, 1, 2, 3, 4, 5, 6, 8] rfl ?_
            exact tX12_better_115 _ _ _ hk30 hk62 ih x0 x1 x2 x4 x6 x8 x9 x11 p2.2 rx1 rx2 rx4 rx6 rx8 rx9 rx11 H
noncomputable def fX12_better_62 (k30 : Nat → Int → Int → Int → Hp → Option (Int × Hp)) : Nat → Nat → Int → Int → Int → Int → Int → Int → Hp → Option (Int × Hp)
  | 0, _, _, _, _, _, _, _, _ => none
  | n + 1, x0, x1, x2, x4, x6, x8, x9, h => (cob h 11 x0).bind fun _ => (fX12_n x0 h).bind fun p2 => if p2.1 ≤ x9 then (fX12_better_257 k30 x0 x1 x2 x4 x6 p2.2) else (fX12_better_77 k30 (fX12_better_62 k30 n) FU x0 x1 x2 x4 x6 x8 x9 1 0 p2.2)
theorem tX12_better_62 {L : Nat} {xs : Nat → Int32} {l : Launch} {res : Int × Hp} (k30 : Nat → Int → Int → Int → Hp → Option (Int × Hp)) (hk30 : ∀ (x0 : Nat) (x1 : Int) (x2 : Int) (x3 : Int) (h : Hp), R32 x1 → R32 x2 → R32 x3 → k30 x0 x1 x2 x3 h = some res → J L xs l RX12 cX12_better 15 false 5 (QI res) 0 0 30 [(0, vr x0), (1, vi x1), (2, vi x2), (3, vi x3)] [] h) : ∀ (n : Nat) (x0 : Nat) (x1 : Int) (x2 : Int) (x4 : Int) (x6 : Int) (x8 : Int) (x9 : Int) (h : Hp), R32 x1 → R32 x2 → R64 x4 → R64 x6 → R32 x8 → R32 x9 → fX12_better_62 k30 n x0 x1 x2 x4 x6 x8 x9 h = some res → J L xs l RX12 cX12_better 15 false 5 (QI res) 0 0 62 [(0, vr x0), (1, vi x1), (2, vi x2), (4, vl x4), (6, vl x6), (8, vi x8), (9, vi x9)] [] h := by
  intro n
  induction n with
  | zero => intro x0 x1 x2 x4 x6 x8 x9 h rx1 rx2 rx4 rx6 rx8 rx9 H; cases H
  | succ n ih =>
    intro x0 x1 x2 x4 x6 x8 x9 h rx1 rx2 rx4 rx6 rx8 rx9 H
    rw [fX12_better_62] at H
    refine j_iload (pc' := 64) dX12_better_62 rfl 6 rfl ?_
    refine j_aload_n (i := 0) (pc' := 65) dX12_better_64 rfl rfl 0 rfl ?_
    obtain ⟨u1, e1, H⟩ := bs H
    obtain ⟨p2, e2, H⟩ := bs H
    refine j_cVi (y := yX12_n) (dY := 1) (vs := []) (st := [vi x9]) (q := x0) (pc' := 68) dX12_better_65 rfl ymX12_n yvX12_n ml_X12_90 (by decide) rfl (Nat.le_of_ble_eq_true rfl) (Nat.le_of_ble_eq_true rfl) e1 (tX12_n x0 h e2) (fun r2 z2 => ?_)
    refine j_icmp_ge (tgt := 257) (pc' := 71) dX12_better_68 (by decide) rfl rx9 r2 (fun c3 => ?_) (fun c3 => ?_)
    · rw [if_pos c3] at H
      refine j_sub (lv' := [(0, vr x0), (1, vi x1), (2, vi x2), (4, vl x4), (6, vl x6)]) [0, 1, 2, 3, 4] rfl ?_
      exact tX12_better_257 _ hk30 x0 x1 x2 x4 x6 p2.2 rx1 rx2 rx4 rx6 H
    · rw [if_neg c3] at H
      refine j_iconst (pc' := 72) dX12_better_71 rfl ?_
      refine j_istore (lv' := [(0, vr x0), (1, vi x1), (2, vi x2), (4, vl x4), (6, vl x6), (8, vi x8), (9, vi x9), (10, vi 1)]) (pc' := 74) dX12_better_72 rfl (by decide) [1, 2, 3, 4, 5, 6, 7, 0] rfl ?_
      refine j_iconst (pc' := 75) dX12_better_74 rfl ?_
      refine j_istore (lv' := [(0, vr x0), (1, vi x1), (2, vi x2), (4, vl x4), (6, vl x6), (8, vi x8), (9, vi x9), (10, vi 1), (11, vi 0)]) (pc' := 77) dX12_better_75 rfl (by decide) [1, 2, 3, 4, 5, 6, 7, 8, 0] rfl ?_
      exact tX12_better_77 _ _ hk30 ih FU x0 x1 x2 x4 x6 x8 x9 1 0 p2.2 rx1 rx2 rx4 rx6 rx8 rx9 ⟨by decide, by decide⟩ ⟨by decide, by decide⟩ H
noncomputable def fX12_better_30 : Nat → Nat → Int → Int → Int → Hp → Option (Int × Hp)
  | 0, _, _, _, _, _ => none
  | n + 1, x0, x1, x2, x3, h => if x3 = 0 then (fX12_better_289 x2 h) else ((getR h 11 x0 5).bind fun v2 => (cob h 11 x0).bind fun _ => (fX12_costOf x0 v2 x1 h).bind fun p4 => (getR p4.2 11 x0 5).bind fun v5 => (cob p4.2 11 x0).bind fun _ => (fX12_heaps x0 v5 p4.2).bind fun p7 => fX12_better_62 (fX12_better_30 n) FU x0 x1 x2 p4.1 p4.1 p7.1 0 p7.2)
theorem tX12_better_30 {L : Nat} {xs : Nat → Int32} {l : Launch} {res : Int × Hp} : ∀ (n : Nat) (x0 : Nat) (x1 : Int) (x2 : Int) (x3 : Int) (h : Hp), R32 x1 → R32 x2 → R32 x3 → fX12_better_30 n x0 x1 x2 x3 h = some res → J L xs l RX12 cX12_better 15 false 5 (QI res) 0 0 30 [(0, vr x0), (1, vi x1), (2, vi x2), (3, vi x3)] [] h := by
  intro n
  induction n with
  | zero => intro x0 x1 x2 x3 h rx1 rx2 rx3 H; cases H
  | succ n ih =>
    intro x0 x1 x2 x3 h rx1 rx2 rx3 H
    rw [fX12_better_30] at H
    refine j_iload_n (i := 3) (pc' := 31) dX12_better_30 rfl rfl 3 rfl ?_
    refine j_if_eq (tgt := 289) (pc' := 34) dX12_better_31 (by decide) rfl rx3 (fun c1 => ?_) (fun c1 => ?_)
    · rw [if_pos c1] at H
      refine j_sub (lv' := [(2, vi x2)]) [2] rfl ?_
      exact tX12_better_289   x2 h rx2 H
    · rw [if_neg c1] at H
      refine j_aload_n (i := 0) (pc' := 35) dX12_better_34 rfl rfl 0 rfl ?_
      refine j_aload_n (i := 0) (pc' := 36) dX12_better_35 rfl rfl 0 rfl ?_
      obtain ⟨v2, e2, H⟩ := bs H
      refine j_getR (pc' := 39) dX12_better_36 rfl fl_X12_26 e2 (fun r2 => ?_)
      refine j_iload_n (i := 1) (pc' := 40) dX12_better_39 rfl rfl 1 rfl ?_
      obtain ⟨u3, e3, H⟩ := bs H
      obtain ⟨p4, e4, H⟩ := bs H
      refine j_cVl (y := yX12_costOf) (dY := 4) (vs := [vr v2, vi x1]) (st := []) (q := x0) (pc' := 43) dX12_better_40 rfl ymX12_costOf yvX12_costOf ml_X12_163 (by decide) rfl (Nat.le_of_ble_eq_true rfl) (Nat.le_of_ble_eq_true rfl) e3 (tX12_costOf x0 v2 x1 h rx1 e4) (fun r4 z4 => ?_)
      refine j_lstore (lv' := [(0, vr x0), (1, vi x1), (2, vi x2), (3, vi x3), (4, vl p4.1)]) (pc' := 45) dX12_better_43 rfl (by decide) [1, 2, 3, 4, 0] rfl ?_
      refine j_lload (pc' := 47) dX12_better_45 rfl 4 rfl ?_
      refine j_lstore (lv' := [(0, vr x0), (1, vi x1), (2, vi x2), (3, vi x3), (4, vl p4.1), (6, vl p4.1)]) (pc' := 49) dX12_better_47 rfl (by decide) [1, 2, 3, 4, 5, 0] rfl ?_
      refine j_aload_n (i := 0) (pc' := 50) dX12_better_49 rfl rfl 0 rfl ?_
      refine j_aload_n (i := 0) (pc' := 51) dX12_better_50 rfl rfl 0 rfl ?_
      obtain ⟨v5, e5, H⟩ := bs H
      refine j_getR (pc' := 54) dX12_better_51 rfl fl_X12_26 e5 (fun r5 => ?_)
      obtain ⟨u6, e6, H⟩ := bs H
      obtain ⟨p7, e7, H⟩ := bs H
      refine j_cVi (y := yX12_heaps) (dY := 2) (vs := [vr v5]) (st := []) (q := x0) (pc' := 57) dX12_better_54 rfl ymX12_heaps yvX12_heaps ml_X12_133 (by decide) rfl (Nat.le_of_ble_eq_true rfl) (Nat.le_of_ble_eq_true rfl) e6 (tX12_heaps x0 v5 p4.2 e7) (fun r7 z7 => ?_)
      refine j_istore (lv' := [(0, vr x0), (1, vi x1), (2, vi x2), (3, vi x3), (4, vl p4.1), (6, vl p4.1), (8, vi p7.1)]) (pc' := 59) dX12_better_57 rfl (by decide) [1, 2, 3, 4, 5, 6, 0] rfl ?_
      refine j_iconst (pc' := 60) dX12_better_59 rfl ?_
      refine j_istore (lv' := [(0, vr x0), (1, vi x1), (2, vi x2), (3, vi x3), (4, vl p4.1), (6, vl p4.1), (8, vi p7.1), (9, vi 0)]) (pc' := 62) dX12_better_60 rfl (by decide) [1, 2, 3, 4, 5, 6, 7, 0] rfl ?_
      refine j_sub (lv' := [(0, vr x0), (1, vi x1), (2, vi x2), (4, vl p4.1), (6, vl p4.1), (8, vi p7.1), (9, vi 0)]) [0, 1, 2, 4, 5, 6, 7] rfl ?_
      exact tX12_better_62 _ ih FU x0 x1 x2 p4.1 p4.1 p7.1 0 p7.2 rx1 rx2 r4 r4 r7 ⟨by decide, by decide⟩ H
noncomputable def fX12_better (a0 : Nat) (a1 : Int) (h : Hp) : Option (Int × Hp) :=
  (putV h 11 a0 19 (vi 0)).bind fun h1 => (fX12_isGoal a1 h1).bind fun p2 => if p2.1 = 0 then ((cob p2.2 11 a0).bind fun _ => (fX12_no a0 1 p2.2).bind fun p9 => some (p9.1, p9.2)) else ((cob p2.2 11 a0).bind fun _ => (fX12_change a0 p2.2).bind fun h5 => (cob h5 11 a0).bind fun _ => (fX12_useWays a0 h5).bind fun h7 => fX12_better_30 FU a0 a1 0 1 h7)
theorem tX12_better {L : Nat} {xs : Nat → Int32} {l : Launch} {res : Int × Hp} (a0 : Nat) (a1 : Int) (h : Hp) (ra1 : R32 a1) (H : fX12_better a0 a1 h = some res) : J L xs l RX12 cX12_better 15 false 5 (QI res) 0 0 0 (alv 0 [vr a0, vi a1]) [] h := by
  unfold fX12_better at H
  show J L xs l RX12 cX12_better 15 false 5 (QI res) 0 0 0 [(0, vr a0), (1, vi a1)] [] h
  refine j_aload_n (i := 0) (pc' := 1) dX12_better_0 rfl rfl 0 rfl ?_
  refine j_iconst (pc' := 2) dX12_better_1 rfl ?_
  obtain ⟨h1, e1, H⟩ := bs H
  refine j_putV (pc' := 5) dX12_better_2 rfl fp_X12_77 tI ⟨by decide, by decide⟩ e1 ?_
  refine j_iload_n (i := 1) (pc' := 6) dX12_better_5 rfl rfl 1 rfl ?_
  obtain ⟨p2, e2, H⟩ := bs H
  refine j_cSb (y := yX12_isGoal) (dY := 1) (vs := [vi a1]) (st := []) (pc' := 9) dX12_better_6 rfl ymX12_isGoal ysX12_isGoal ml_X12_157 (by decide) rfl (Nat.le_of_ble_eq_true rfl) (Nat.le_of_ble_eq_true rfl) (tX12_isGoal a1 h1 ra1 e2) (fun r2 b2 z2 => ?_)
  refine j_if_ne (tgt := 18) (pc' := 12) dX12_better_9 (by decide) rfl r2 (fun c3 => ?_) (fun c3 => ?_)
  · rw [if_neg c3] at H
    refine j_aload_n (i := 0) (pc' := 19) dX12_better_18 rfl rfl 0 rfl ?_
    obtain ⟨u4, e4, H⟩ := bs H
    obtain ⟨h5, e5, H⟩ := bs H
    refine j_cVv (y := yX12_change) (dY := 2) (vs := []) (st := []) (q := a0) (pc' := 22) dX12_better_19 rfl ymX12_change yvX12_change ml_X12_102 (by decide) rfl (Nat.le_of_ble_eq_true rfl) (Nat.le_of_ble_eq_true rfl) e4 (tX12_change a0 p2.2 e5) (fun z5 => ?_)
    refine j_aload_n (i := 0) (pc' := 23) dX12_better_22 rfl rfl 0 rfl ?_
    obtain ⟨u6, e6, H⟩ := bs H
    obtain ⟨h7, e7, H⟩ := bs H
    refine j_cVv (y := yX12_useWays) (dY := 1) (vs := []) (st := []) (q := a0) (pc' := 26) dX12_better_23 rfl ymX12_useWays yvX12_useWays ml_X12_160 (by decide) rfl (Nat.le_of_ble_eq_true rfl) (Nat.le_of_ble_eq_true rfl) e6 (tX12_useWays a0 h5 e7) (fun z7 => ?_)
    refine j_iconst (pc' := 27) dX12_better_26 rfl ?_
    refine j_istore_n (i := 2) (lv' := [(0, vr a0), (1, vi a1), (2, vi 0)]) (pc' := 28) dX12_better_27 rfl rfl (by decide) [1, 2, 0] rfl ?_
    refine j_iconst (pc' := 29) dX12_better_28 rfl ?_
    refine j_istore_n (i := 3) (lv' := [(0, vr a0), (1, vi a1), (2, vi 0), (3, vi 1)]) (pc' := 30) dX12_better_29 rfl rfl (by decide) [1, 2, 3, 0] rfl ?_
    exact tX12_better_30   FU a0 a1 0 1 h7 ra1 ⟨by decide, by decide⟩ ⟨by decide, by decide⟩ H
  · rw [if_pos c3] at H
    refine j_aload_n (i := 0) (pc' := 13) dX12_better_12 rfl rfl 0 rfl ?_
    refine j_iconst (pc' := 14) dX12_better_13 rfl ?_
    obtain ⟨u8, e8, H⟩ := bs H
    obtain ⟨p9, e9, H⟩ := bs H
    refine j_cVi (y := yX12_no) (dY := 1) (vs := [vi 1]) (st := []) (q := a0) (pc' := 17) dX12_better_14 rfl ymX12_no yvX12_no ml_X12_98 (by decide) rfl (Nat.le_of_ble_eq_true rfl) (Nat.le_of_ble_eq_true rfl) e8 (tX12_no a0 1 p2.2 ⟨by decide, by decide⟩ e9) (fun r9 z9 => ?_)
    obtain rfl := Option.some.inj H
    exact j_iret dX12_better_17 r9 ⟨rfl, rfl⟩
-- X12_two
noncomputable def fX12_two_134 (x0 : Nat) (x1 : Int) (h : Hp) : Option (Int × Hp) :=
  (getR h 11 x0 21).bind fun v1 => (cob h 11 x0).bind fun _ => (fX12_become x0 v1 h).bind fun h3 => some (x1, h3)
theorem tX12_two_134 {L : Nat} {xs : Nat → Int32} {l : Launch} {res : Int × Hp} (x0 : Nat) (x1 : Int) (h : Hp) (rx1 : R32 x1) (H : fX12_two_134 x0 x1 h = some res) : J L xs l RX12 cX12_two 5 false 5 (QI res) 0 0 134 [(0, vr x0), (1, vi x1)] [] h := by
  unfold fX12_two_134 at H
  refine j_aload_n (i := 0) (pc' := 135) dX12_two_134 rfl rfl 0 rfl ?_
  refine j_aload_n (i := 0) (pc' := 136) dX12_two_135 rfl rfl 0 rfl ?_
  obtain ⟨v1, e1, H⟩ := bs H
  refine j_getR (pc' := 139) dX12_two_136 rfl fl_X12_61 e1 (fun r1 => ?_)
  obtain ⟨u2, e2, H⟩ := bs H
  obtain ⟨h3, e3, H⟩ := bs H
  refine j_cVv (y := yX12_become) (dY := 2) (vs := [vr v1]) (st := []) (q := x0) (pc' := 142) dX12_two_139 rfl ymX12_become yvX12_become ml_X12_150 (by decide) rfl (Nat.le_of_ble_eq_true rfl) (Nat.le_of_ble_eq_true rfl) e2 (tX12_become x0 v1 h e3) (fun z3 => ?_)
  refine j_iload_n (i := 1) (pc' := 143) dX12_two_142 rfl rfl 1 rfl ?_
  obtain rfl := Option.some.inj H
  exact j_iret dX12_two_143 rx1 ⟨rfl, rfl⟩
noncomputable def fX12_two_128 (k17 : Nat → Int → Int → Hp → Option (Int × Hp)) (x0 : Nat) (x1 : Int) (x2 : Int) (h : Hp) : Option (Int × Hp) :=
  (c32 (x2 + 1)).bind fun _ => k17 x0 x1 (x2 + 1) h
theorem tX12_two_128 {L : Nat} {xs : Nat → Int32} {l : Launch} {res : Int × Hp} (k17 : Nat → Int → Int → Hp → Option (Int × Hp)) (hk17 : ∀ (x0 : Nat) (x1 : Int) (x2 : Int) (h : Hp), R32 x1 → R32 x2 → k17 x0 x1 x2 h = some res → J L xs l RX12 cX12_two 5 false 5 (QI res) 0 0 17 [(0, vr x0), (1, vi x1), (2, vi x2)] [] h) (x0 : Nat) (x1 : Int) (x2 : Int) (h : Hp) (rx1 : R32 x1) (rx2 : R32 x2) (H : fX12_two_128 k17 x0 x1 x2 h = some res) : J L xs l RX12 cX12_two 5 false 5 (QI res) 0 0 128 [(0, vr x0), (1, vi x1), (2, vi x2)] [] h := by
  unfold fX12_two_128 at H
  obtain ⟨u1, e1, H⟩ := bs H
  have r1 := c32_R e1
  refine j_iinc (k0 := 2) (lv' := [(0, vr x0), (1, vi x1), (2, vi (x2 + 1))]) (pc' := 131) dX12_two_128 rfl rfl (by decide) [1, 2, 0] rfl ?_
  refine j_goto (tgt := 17) dX12_two_131 (by decide) ?_
  exact hk17 x0 x1 (x2 + 1) h rx1 r1 H
noncomputable def fX12_two_99 (k17 : Nat → Int → Int → Hp → Option (Int × Hp)) : Nat → Nat → Int → Int → Int → Hp → Option (Int × Hp)
  | 0, _, _, _, _, _ => none
  | n + 1, x0, x1, x2, x4, h => (cob h 11 x0).bind fun _ => (fX12_n x0 h).bind fun p2 => if p2.1 ≤ x4 then (fX12_two_128 k17 x0 x1 x2 p2.2) else ((getR p2.2 11 x0 21).bind fun v4 => (getR p2.2 11 x0 20).bind fun v5 => (ald p2.2 0 v5 x4).bind fun v6 => (ast p2.2 0 v4 x4 v6).bind fun h7 => (c32 (x4 + 1)).bind fun _ => fX12_two_99 k17 n x0 x1 x2 (x4 + 1) h7)
theorem tX12_two_99 {L : Nat} {xs : Nat → Int32} {l : Launch} {res : Int × Hp} (k17 : Nat → Int → Int → Hp → Option (Int × Hp)) (hk17 : ∀ (x0 : Nat) (x1 : Int) (x2 : Int) (h : Hp), R32 x1 → R32 x2 → k17 x0 x1 x2 h = some res → J L xs l RX12 cX12_two 5 false 5 (QI res) 0 0 17 [(0, vr x0), (1, vi x1), (2, vi x2)] [] h) : ∀ (n : Nat) (x0 : Nat) (x1 : Int) (x2 : Int) (x4 : Int) (h : Hp), R32 x1 → R32 x2 → R32 x4 → fX12_two_99 k17 n x0 x1 x2 x4 h = some res → J L xs l RX12 cX12_two 5 false 5 (QI res) 0 0 99 [(0, vr x0), (1, vi x1), (2, vi x2), (4, vi x4)] [] h := by
  intro n
  induction n with
  | zero => intro x0 x1 x2 x4 h rx1 rx2 rx4 H; cases H
  | succ n ih =>
    intro x0 x1 x2 x4 h rx1 rx2 rx4 H
    rw [fX12_two_99] at H
    refine j_iload (pc' := 101) dX12_two_99 rfl 3 rfl ?_
    refine j_aload_n (i := 0) (pc' := 102) dX12_two_101 rfl rfl 0 rfl ?_
    obtain ⟨u1, e1, H⟩ := bs H
    obtain ⟨p2, e2, H⟩ := bs H
    refine j_cVi (y := yX12_n) (dY := 1) (vs := []) (st := [vi x4]) (q := x0) (pc' := 105) dX12_two_102 rfl ymX12_n yvX12_n ml_X12_90 (by decide) rfl (Nat.le_of_ble_eq_true rfl) (Nat.le_of_ble_eq_true rfl) e1 (tX12_n x0 h e2) (fun r2 z2 => ?_)
    refine j_icmp_ge (tgt := 128) (pc' := 108) dX12_two_105 (by decide) rfl rx4 r2 (fun c3 => ?_) (fun c3 => ?_)
    · rw [if_pos c3] at H
      refine j_sub (lv' := [(0, vr x0), (1, vi x1), (2, vi x2)]) [0, 1, 2] rfl ?_
      exact tX12_two_128 _ hk17 x0 x1 x2 p2.2 rx1 rx2 H
    · rw [if_neg c3] at H
      refine j_aload_n (i := 0) (pc' := 109) dX12_two_108 rfl rfl 0 rfl ?_
      obtain ⟨v4, e4, H⟩ := bs H
      refine j_getR (pc' := 112) dX12_two_109 rfl fl_X12_61 e4 (fun r4 => ?_)
      refine j_iload (pc' := 114) dX12_two_112 rfl 3 rfl ?_
      refine j_aload_n (i := 0) (pc' := 115) dX12_two_114 rfl rfl 0 rfl ?_
      obtain ⟨v5, e5, H⟩ := bs H
      refine j_getR (pc' := 118) dX12_two_115 rfl fl_X12_58 e5 (fun r5 => ?_)
      refine j_iload (pc' := 120) dX12_two_118 rfl 3 rfl ?_
      obtain ⟨v6, e6, H⟩ := bs H
      refine j_iald (pc' := 121) dX12_two_120 rfl e6 (fun r6 => ?_)
      obtain ⟨h7, e7, H⟩ := bs H
      refine j_iast (pc' := 122) dX12_two_121 rfl r6 e7 ?_
      obtain ⟨u8, e8, H⟩ := bs H
      have r8 := c32_R e8
      refine j_iinc (k0 := 3) (lv' := [(0, vr x0), (1, vi x1), (2, vi x2), (4, vi (x4 + 1))]) (pc' := 125) dX12_two_122 rfl rfl (by decide) [1, 2, 3, 0] rfl ?_
      refine j_goto (tgt := 99) dX12_two_125 (by decide) ?_
      exact ih x0 x1 x2 (x4 + 1) h7 rx1 rx2 r8 H
noncomputable def fX12_two_94 (k17 : Nat → Int → Int → Hp → Option (Int × Hp)) (x0 : Nat) (x2 : Int) (x3 : Int) (h : Hp) : Option (Int × Hp) :=
  fX12_two_99 k17 FU x0 x3 x2 0 h
theorem tX12_two_94 {L : Nat} {xs : Nat → Int32} {l : Launch} {res : Int × Hp} (k17 : Nat → Int → Int → Hp → Option (Int × Hp)) (hk17 : ∀ (x0 : Nat) (x1 : Int) (x2 : Int) (h : Hp), R32 x1 → R32 x2 → k17 x0 x1 x2 h = some res → J L xs l RX12 cX12_two 5 false 5 (QI res) 0 0 17 [(0, vr x0), (1, vi x1), (2, vi x2)] [] h) (x0 : Nat) (x2 : Int) (x3 : Int) (h : Hp) (rx2 : R32 x2) (rx3 : R32 x3) (H : fX12_two_94 k17 x0 x2 x3 h = some res) : J L xs l RX12 cX12_two 5 false 5 (QI res) 0 0 94 [(0, vr x0), (2, vi x2), (3, vi x3)] [] h := by
  unfold fX12_two_94 at H
  refine j_iload_n (i := 3) (pc' := 95) dX12_two_94 rfl rfl 2 rfl ?_
  refine j_istore_n (i := 1) (lv' := [(0, vr x0), (1, vi x3), (2, vi x2), (3, vi x3)]) (pc' := 96) dX12_two_95 rfl rfl (by decide) [1, 0, 2, 3] rfl ?_
  refine j_iconst (pc' := 97) dX12_two_96 rfl ?_
  refine j_istore (lv' := [(0, vr x0), (1, vi x3), (2, vi x2), (3, vi x3), (4, vi 0)]) (pc' := 99) dX12_two_97 rfl (by decide) [1, 2, 3, 4, 0] rfl ?_
  refine j_sub (lv' := [(0, vr x0), (1, vi x3), (2, vi x2), (4, vi 0)]) [0, 1, 2, 4] rfl ?_
  exact tX12_two_99 _ hk17 FU x0 x3 x2 0 h rx3 rx2 ⟨by decide, by decide⟩ H
noncomputable def fX12_two_70 (k17 : Nat → Int → Int → Hp → Option (Int × Hp)) (x0 : Nat) (x1 : Int) (x2 : Int) (h : Hp) : Option (Int × Hp) :=
  (getR h 11 x0 20).bind fun v1 => (cob h 11 x0).bind fun _ => (fX12_costOf x0 v1 2 h).bind fun p3 => if x1 = (-1) then (fX12_two_94 k17 x0 x2 (l2w p3.1) p3.2) else (if (l2w p3.1) < x1 then (fX12_two_94 k17 x0 x2 (l2w p3.1) p3.2) else (fX12_two_128 k17 x0 x1 x2 p3.2))
theorem tX12_two_70 {L : Nat} {xs : Nat → Int32} {l : Launch} {res : Int × Hp} (k17 : Nat → Int → Int → Hp → Option (Int × Hp)) (hk17 : ∀ (x0 : Nat) (x1 : Int) (x2 : Int) (h : Hp), R32 x1 → R32 x2 → k17 x0 x1 x2 h = some res → J L xs l RX12 cX12_two 5 false 5 (QI res) 0 0 17 [(0, vr x0), (1, vi x1), (2, vi x2)] [] h) (x0 : Nat) (x1 : Int) (x2 : Int) (h : Hp) (rx1 : R32 x1) (rx2 : R32 x2) (H : fX12_two_70 k17 x0 x1 x2 h = some res) : J L xs l RX12 cX12_two 5 false 5 (QI res) 0 0 70 [(0, vr x0), (1, vi x1), (2, vi x2)] [] h := by
  unfold fX12_two_70 at H
  refine j_aload_n (i := 0) (pc' := 71) dX12_two_70 rfl rfl 0 rfl ?_
  refine j_aload_n (i := 0) (pc' := 72) dX12_two_71 rfl rfl 0 rfl ?_
  obtain ⟨v1, e1, H⟩ := bs H
  refine j_getR (pc' := 75) dX12_two_72 rfl fl_X12_58 e1 (fun r1 => ?_)
  refine j_iconst (pc' := 76) dX12_two_75 rfl ?_
  obtain ⟨u2, e2, H⟩ := bs H
  obtain ⟨p3, e3, H⟩ := bs H
  refine j_cVl (y := yX12_costOf) (dY := 4) (vs := [vr v1, vi 2]) (st := []) (q := x0) (pc' := 79) dX12_two_76 rfl ymX12_costOf yvX12_costOf ml_X12_163 (by decide) rfl (Nat.le_of_ble_eq_true rfl) (Nat.le_of_ble_eq_true rfl) e2 (tX12_costOf x0 v1 2 h ⟨by decide, by decide⟩ e3) (fun r3 z3 => ?_)
  refine j_l2i (pc' := 80) dX12_two_79 rfl ?_
  refine j_istore_n (i := 3) (lv' := [(0, vr x0), (1, vi x1), (2, vi x2), (3, vi (l2w p3.1))]) (pc' := 81) dX12_two_80 rfl rfl (by decide) [1, 2, 3, 0] rfl ?_
  refine j_iload_n (i := 1) (pc' := 82) dX12_two_81 rfl rfl 1 rfl ?_
  refine j_iconst (pc' := 83) dX12_two_82 rfl ?_
  refine j_icmp_eq (tgt := 94) (pc' := 86) dX12_two_83 (by decide) rfl rx1 ⟨by decide, by decide⟩ (fun c4 => ?_) (fun c4 => ?_)
  · rw [if_pos c4] at H
    refine j_sub (lv' := [(0, vr x0), (2, vi x2), (3, vi (l2w p3.1))]) [0, 2, 3] rfl ?_
    exact tX12_two_94 _ hk17 x0 x2 (l2w p3.1) p3.2 rx2 (R32_to _) H
  · rw [if_neg c4] at H
    refine j_iload_n (i := 3) (pc' := 87) dX12_two_86 rfl rfl 3 rfl ?_
    refine j_iload_n (i := 1) (pc' := 88) dX12_two_87 rfl rfl 1 rfl ?_
    refine j_icmp_lt (tgt := 94) (pc' := 91) dX12_two_88 (by decide) rfl (R32_to _) rx1 (fun c5 => ?_) (fun c5 => ?_)
    · rw [if_pos c5] at H
      refine j_sub (lv' := [(0, vr x0), (2, vi x2), (3, vi (l2w p3.1))]) [0, 2, 3] rfl ?_
      exact tX12_two_94 _ hk17 x0 x2 (l2w p3.1) p3.2 rx2 (R32_to _) H
    · rw [if_neg c5] at H
      refine j_goto (tgt := 128) dX12_two_91 (by decide) ?_
      refine j_sub (lv' := [(0, vr x0), (1, vi x1), (2, vi x2)]) [0, 1, 2] rfl ?_
      exact tX12_two_128 _ hk17 x0 x1 x2 p3.2 rx1 rx2 H
noncomputable def fX12_two_38 (k17 : Nat → Int → Int → Hp → Option (Int × Hp)) : Nat → Nat → Int → Int → Int → Hp → Option (Int × Hp)
  | 0, _, _, _, _, _ => none
  | n + 1, x0, x1, x2, x3, h => (cob h 11 x0).bind fun _ => (fX12_n x0 h).bind fun p2 => if p2.1 ≤ x3 then (fX12_two_70 k17 x0 x1 x2 p2.2) else ((getR p2.2 11 x0 20).bind fun v4 => (cob p2.2 11 x0).bind fun _ => (fX12_n x0 p2.2).bind fun p6 => (ast p6.2 0 v4 x3 (bAnd (bShr x2 ((p6.1 - 1) - x3)) 1)).bind fun h7 => (c32 (x3 + 1)).bind fun _ => fX12_two_38 k17 n x0 x1 x2 (x3 + 1) h7)
theorem tX12_two_38 {L : Nat} {xs : Nat → Int32} {l : Launch} {res : Int × Hp} (k17 : Nat → Int → Int → Hp → Option (Int × Hp)) (hk17 : ∀ (x0 : Nat) (x1 : Int) (x2 : Int) (h : Hp), R32 x1 → R32 x2 → k17 x0 x1 x2 h = some res → J L xs l RX12 cX12_two 5 false 5 (QI res) 0 0 17 [(0, vr x0), (1, vi x1), (2, vi x2)] [] h) : ∀ (n : Nat) (x0 : Nat) (x1 : Int) (x2 : Int) (x3 : Int) (h : Hp), R32 x1 → R32 x2 → R32 x3 → fX12_two_38 k17 n x0 x1 x2 x3 h = some res → J L xs l RX12 cX12_two 5 false 5 (QI res) 0 0 38 [(0, vr x0), (1, vi x1), (2, vi x2), (3, vi x3)] [] h := by
  intro n
  induction n with
  | zero => intro x0 x1 x2 x3 h rx1 rx2 rx3 H; cases H
  | succ n ih =>
    intro x0 x1 x2 x3 h rx1 rx2 rx3 H
    rw [fX12_two_38] at H
    refine j_iload_n (i := 3) (pc' := 39) dX12_two_38 rfl rfl 3 rfl ?_
    refine j_aload_n (i := 0) (pc' := 40) dX12_two_39 rfl rfl 0 rfl ?_
    obtain ⟨u1, e1, H⟩ := bs H
    obtain ⟨p2, e2, H⟩ := bs H
    refine j_cVi (y := yX12_n) (dY := 1) (vs := []) (st := [vi x3]) (q := x0) (pc' := 43) dX12_two_40 rfl ymX12_n yvX12_n ml_X12_90 (by decide) rfl (Nat.le_of_ble_eq_true rfl) (Nat.le_of_ble_eq_true rfl) e1 (tX12_n x0 h e2) (fun r2 z2 => ?_)
    refine j_icmp_ge (tgt := 70) (pc' := 46) dX12_two_43 (by decide) rfl rx3 r2 (fun c3 => ?_) (fun c3 => ?_)
    · rw [if_pos c3] at H
      refine j_sub (lv' := [(0, vr x0), (1, vi x1), (2, vi x2)]) [0, 1, 2] rfl ?_
      exact tX12_two_70 _ hk17 x0 x1 x2 p2.2 rx1 rx2 H
    · rw [if_neg c3] at H
      refine j_aload_n (i := 0) (pc' := 47) dX12_two_46 rfl rfl 0 rfl ?_
      obtain ⟨v4, e4, H⟩ := bs H
      refine j_getR (pc' := 50) dX12_two_47 rfl fl_X12_58 e4 (fun r4 => ?_)
      refine j_iload_n (i := 3) (pc' := 51) dX12_two_50 rfl rfl 3 rfl ?_
      refine j_iload_n (i := 2) (pc' := 52) dX12_two_51 rfl rfl 2 rfl ?_
      refine j_aload_n (i := 0) (pc' := 53) dX12_two_52 rfl rfl 0 rfl ?_
      obtain ⟨u5, e5, H⟩ := bs H
      obtain ⟨p6, e6, H⟩ := bs H
      refine j_cVi (y := yX12_n) (dY := 1) (vs := []) (st := [vi x2, vi x3, vr v4]) (q := x0) (pc' := 56) dX12_two_53 rfl ymX12_n yvX12_n ml_X12_90 (by decide) rfl (Nat.le_of_ble_eq_true rfl) (Nat.le_of_ble_eq_true rfl) e5 (tX12_n x0 p2.2 e6) (fun r6 z6 => ?_)
      refine j_iconst (pc' := 57) dX12_two_56 rfl ?_
      refine j_isub (pc' := 58) dX12_two_57 rfl ?_
      refine j_iload_n (i := 3) (pc' := 59) dX12_two_58 rfl rfl 3 rfl ?_
      refine j_isub (pc' := 60) dX12_two_59 rfl ?_
      refine j_ishr (pc' := 61) dX12_two_60 rfl ?_
      refine j_iconst (pc' := 62) dX12_two_61 rfl ?_
      refine j_iand (pc' := 63) dX12_two_62 rfl ?_
      obtain ⟨h7, e7, H⟩ := bs H
      refine j_iast (pc' := 64) dX12_two_63 rfl (R32_to _) e7 ?_
      obtain ⟨u8, e8, H⟩ := bs H
      have r8 := c32_R e8
      refine j_iinc (k0 := 3) (lv' := [(0, vr x0), (1, vi x1), (2, vi x2), (3, vi (x3 + 1))]) (pc' := 67) dX12_two_64 rfl rfl (by decide) [1, 2, 3, 0] rfl ?_
      refine j_goto (tgt := 38) dX12_two_67 (by decide) ?_
      exact ih x0 x1 x2 (x3 + 1) h7 rx1 rx2 r8 H
noncomputable def fX12_two_17 : Nat → Nat → Int → Int → Hp → Option (Int × Hp)
  | 0, _, _, _, _ => none
  | n + 1, x0, x1, x2, h => (cob h 11 x0).bind fun _ => (fX12_n x0 h).bind fun p2 => if (bShl 1 (p2.1 - 1)) ≤ x2 then (fX12_two_134 x0 x1 p2.2) else ((getR p2.2 11 x0 20).bind fun v4 => (ast p2.2 0 v4 0 0).bind fun h5 => fX12_two_38 (fX12_two_17 n) FU x0 x1 x2 1 h5)
theorem tX12_two_17 {L : Nat} {xs : Nat → Int32} {l : Launch} {res : Int × Hp} : ∀ (n : Nat) (x0 : Nat) (x1 : Int) (x2 : Int) (h : Hp), R32 x1 → R32 x2 → fX12_two_17 n x0 x1 x2 h = some res → J L xs l RX12 cX12_two 5 false 5 (QI res) 0 0 17 [(0, vr x0), (1, vi x1), (2, vi x2)] [] h := by
  intro n
  induction n with
  | zero => intro x0 x1 x2 h rx1 rx2 H; cases H
  | succ n ih =>
    intro x0 x1 x2 h rx1 rx2 H
    rw [fX12_two_17] at H
    refine j_iload_n (i := 2) (pc' := 18) dX12_two_17 rfl rfl 2 rfl ?_
    refine j_iconst (pc' := 19) dX12_two_18 rfl ?_
    refine j_aload_n (i := 0) (pc' := 20) dX12_two_19 rfl rfl 0 rfl ?_
    obtain ⟨u1, e1, H⟩ := bs H
    obtain ⟨p2, e2, H⟩ := bs H
    refine j_cVi (y := yX12_n) (dY := 1) (vs := []) (st := [vi 1, vi x2]) (q := x0) (pc' := 23) dX12_two_20 rfl ymX12_n yvX12_n ml_X12_90 (by decide) rfl (Nat.le_of_ble_eq_true rfl) (Nat.le_of_ble_eq_true rfl) e1 (tX12_n x0 h e2) (fun r2 z2 => ?_)
    refine j_iconst (pc' := 24) dX12_two_23 rfl ?_
    refine j_isub (pc' := 25) dX12_two_24 rfl ?_
    refine j_ishl (pc' := 26) dX12_two_25 rfl ?_
    refine j_icmp_ge (tgt := 134) (pc' := 29) dX12_two_26 (by decide) rfl rx2 (R32_to _) (fun c3 => ?_) (fun c3 => ?_)
    · rw [if_pos c3] at H
      refine j_sub (lv' := [(0, vr x0), (1, vi x1)]) [0, 1] rfl ?_
      exact tX12_two_134   x0 x1 p2.2 rx1 H
    · rw [if_neg c3] at H
      refine j_aload_n (i := 0) (pc' := 30) dX12_two_29 rfl rfl 0 rfl ?_
      obtain ⟨v4, e4, H⟩ := bs H
      refine j_getR (pc' := 33) dX12_two_30 rfl fl_X12_58 e4 (fun r4 => ?_)
      refine j_iconst (pc' := 34) dX12_two_33 rfl ?_
      refine j_iconst (pc' := 35) dX12_two_34 rfl ?_
      obtain ⟨h5, e5, H⟩ := bs H
      refine j_iast (pc' := 36) dX12_two_35 rfl ⟨by decide, by decide⟩ e5 ?_
      refine j_iconst (pc' := 37) dX12_two_36 rfl ?_
      refine j_istore_n (i := 3) (lv' := [(0, vr x0), (1, vi x1), (2, vi x2), (3, vi 1)]) (pc' := 38) dX12_two_37 rfl rfl (by decide) [1, 2, 3, 0] rfl ?_
      exact tX12_two_38 _ ih FU x0 x1 x2 1 h5 rx1 rx2 ⟨by decide, by decide⟩ H
noncomputable def fX12_two (a0 : Nat) (h : Hp) : Option (Int × Hp) :=
  (putV h 11 a0 19 (vi 0)).bind fun h1 => (cob h1 11 a0).bind fun _ => (fX12_change a0 h1).bind fun h3 => (cob h3 11 a0).bind fun _ => (fX12_useWays a0 h3).bind fun h5 => fX12_two_17 FU a0 (-1) 0 h5
theorem tX12_two {L : Nat} {xs : Nat → Int32} {l : Launch} {res : Int × Hp} (a0 : Nat) (h : Hp)  (H : fX12_two a0 h = some res) : J L xs l RX12 cX12_two 5 false 5 (QI res) 0 0 0 (alv 0 [vr a0]) [] h := by
  unfold fX12_two at H
  show J L xs l RX12 cX12_two 5 false 5 (QI res) 0 0 0 [(0, vr a0)] [] h
  refine j_aload_n (i := 0) (pc' := 1) dX12_two_0 rfl rfl 0 rfl ?_
  refine j_iconst (pc' := 2) dX12_two_1 rfl ?_
  obtain ⟨h1, e1, H⟩ := bs H
  refine j_putV (pc' := 5) dX12_two_2 rfl fp_X12_77 tI ⟨by decide, by decide⟩ e1 ?_
  refine j_aload_n (i := 0) (pc' := 6) dX12_two_5 rfl rfl 0 rfl ?_
  obtain ⟨u2, e2, H⟩ := bs H
  obtain ⟨h3, e3, H⟩ := bs H
  refine j_cVv (y := yX12_change) (dY := 2) (vs := []) (st := []) (q := a0) (pc' := 9) dX12_two_6 rfl ymX12_change yvX12_change ml_X12_102 (by decide) rfl (Nat.le_of_ble_eq_true rfl) (Nat.le_of_ble_eq_true rfl) e2 (tX12_change a0 h1 e3) (fun z3 => ?_)
  refine j_aload_n (i := 0) (pc' := 10) dX12_two_9 rfl rfl 0 rfl ?_
  obtain ⟨u4, e4, H⟩ := bs H
  obtain ⟨h5, e5, H⟩ := bs H
  refine j_cVv (y := yX12_useWays) (dY := 1) (vs := []) (st := []) (q := a0) (pc' := 13) dX12_two_10 rfl ymX12_useWays yvX12_useWays ml_X12_160 (by decide) rfl (Nat.le_of_ble_eq_true rfl) (Nat.le_of_ble_eq_true rfl) e4 (tX12_useWays a0 h3 e5) (fun z5 => ?_)
  refine j_iconst (pc' := 14) dX12_two_13 rfl ?_
  refine j_istore_n (i := 1) (lv' := [(0, vr a0), (1, vi (-1))]) (pc' := 15) dX12_two_14 rfl rfl (by decide) [1, 0] rfl ?_
  refine j_iconst (pc' := 16) dX12_two_15 rfl ?_
  refine j_istore_n (i := 2) (lv' := [(0, vr a0), (1, vi (-1)), (2, vi 0)]) (pc' := 17) dX12_two_16 rfl rfl (by decide) [1, 2, 0] rfl ?_
  exact tX12_two_17   FU a0 (-1) 0 h5 ⟨by decide, by decide⟩ ⟨by decide, by decide⟩ H
-- X12_nearest
noncomputable def fX12_nearest_56 (x3 : Int) (h : Hp) : Option (Int × Hp) :=
  some (x3, h)
theorem tX12_nearest_56 {L : Nat} {xs : Nat → Int32} {l : Launch} {res : Int × Hp} (x3 : Int) (h : Hp) (rx3 : R32 x3) (H : fX12_nearest_56 x3 h = some res) : J L xs l RX12 cX12_nearest 5 false 1 (QI res) 0 0 56 [(3, vi x3)] [] h := by
  unfold fX12_nearest_56 at H
  refine j_iload_n (i := 3) (pc' := 57) dX12_nearest_56 rfl rfl 0 rfl ?_
  obtain rfl := Option.some.inj H
  exact j_iret dX12_nearest_57 rx3 ⟨rfl, rfl⟩
noncomputable def fX12_nearest_50 (k5 : Nat → Int → Int → Int → Int → Hp → Option (Int × Hp)) (x0 : Nat) (x1 : Int) (x2 : Int) (x3 : Int) (x4 : Int) (h : Hp) : Option (Int × Hp) :=
  (c32 (x4 + 1)).bind fun _ => k5 x0 x1 x2 x3 (x4 + 1) h
theorem tX12_nearest_50 {L : Nat} {xs : Nat → Int32} {l : Launch} {res : Int × Hp} (k5 : Nat → Int → Int → Int → Int → Hp → Option (Int × Hp)) (hk5 : ∀ (x0 : Nat) (x1 : Int) (x2 : Int) (x3 : Int) (x4 : Int) (h : Hp), R32 x1 → R32 x2 → R32 x3 → R32 x4 → k5 x0 x1 x2 x3 x4 h = some res → J L xs l RX12 cX12_nearest 5 false 1 (QI res) 0 0 5 [(0, vr x0), (1, vi x1), (2, vi x2), (3, vi x3), (4, vi x4)] [] h) (x0 : Nat) (x1 : Int) (x2 : Int) (x3 : Int) (x4 : Int) (h : Hp) (rx1 : R32 x1) (rx2 : R32 x2) (rx3 : R32 x3) (rx4 : R32 x4) (H : fX12_nearest_50 k5 x0 x1 x2 x3 x4 h = some res) : J L xs l RX12 cX12_nearest 5 false 1 (QI res) 0 0 50 [(0, vr x0), (1, vi x1), (2, vi x2), (3, vi x3), (4, vi x4)] [] h := by
  unfold fX12_nearest_50 at H
  obtain ⟨u1, e1, H⟩ := bs H
  have r1 := c32_R e1
  refine j_iinc (k0 := 4) (lv' := [(0, vr x0), (1, vi x1), (2, vi x2), (3, vi x3), (4, vi (x4 + 1))]) (pc' := 53) dX12_nearest_50 rfl rfl (by decide) [1, 2, 3, 4, 0] rfl ?_
  refine j_goto (tgt := 5) dX12_nearest_53 (by decide) ?_
  exact hk5 x0 x1 x2 x3 (x4 + 1) h rx1 rx2 rx3 r1 H
noncomputable def fX12_nearest_5 : Nat → Nat → Int → Int → Int → Int → Hp → Option (Int × Hp)
  | 0, _, _, _, _, _, _ => none
  | n + 1, x0, x1, x2, x3, x4, h => if x2 ≤ x4 then (fX12_nearest_56 x3 h) else ((getR h 11 x0 2).bind fun v2 => (getR h 11 x0 24).bind fun v3 => (ald h 0 v3 x4).bind fun v4 => (ald h 0 v2 ((12 * x1) + v4)).bind fun v5 => (getR h 11 x0 2).bind fun v6 => (getR h 11 x0 24).bind fun v7 => (ald h 0 v7 x3).bind fun v8 => (ald h 0 v6 ((12 * x1) + v8)).bind fun v9 => if v9 ≤ v5 then (fX12_nearest_50 (fX12_nearest_5 n) x0 x1 x2 x3 x4 h) else (fX12_nearest_50 (fX12_nearest_5 n) x0 x1 x2 x4 x4 h))
theorem tX12_nearest_5 {L : Nat} {xs : Nat → Int32} {l : Launch} {res : Int × Hp} : ∀ (n : Nat) (x0 : Nat) (x1 : Int) (x2 : Int) (x3 : Int) (x4 : Int) (h : Hp), R32 x1 → R32 x2 → R32 x3 → R32 x4 → fX12_nearest_5 n x0 x1 x2 x3 x4 h = some res → J L xs l RX12 cX12_nearest 5 false 1 (QI res) 0 0 5 [(0, vr x0), (1, vi x1), (2, vi x2), (3, vi x3), (4, vi x4)] [] h := by
  intro n
  induction n with
  | zero => intro x0 x1 x2 x3 x4 h rx1 rx2 rx3 rx4 H; cases H
  | succ n ih =>
    intro x0 x1 x2 x3 x4 h rx1 rx2 rx3 rx4 H
    rw [fX12_nearest_5] at H
    refine j_iload (pc' := 7) dX12_nearest_5 rfl 4 rfl ?_
    refine j_iload_n (i := 2) (pc' := 8) dX12_nearest_7 rfl rfl 2 rfl ?_
    refine j_icmp_ge (tgt := 56) (pc' := 11) dX12_nearest_8 (by decide) rfl rx4 rx2 (fun c1 => ?_) (fun c1 => ?_)
    · rw [if_pos c1] at H
      refine j_sub (lv' := [(3, vi x3)]) [3] rfl ?_
      exact tX12_nearest_56   x3 h rx3 H
    · rw [if_neg c1] at H
      refine j_aload_n (i := 0) (pc' := 12) dX12_nearest_11 rfl rfl 0 rfl ?_
      obtain ⟨v2, e2, H⟩ := bs H
      refine j_getR (pc' := 15) dX12_nearest_12 rfl fl_X12_16 e2 (fun r2 => ?_)
      refine j_bipush (pc' := 17) dX12_nearest_15 rfl (by decide +kernel) ?_
      refine j_iload_n (i := 1) (pc' := 18) dX12_nearest_17 rfl rfl 1 rfl ?_
      refine j_imul (pc' := 19) dX12_nearest_18 rfl ?_
      refine j_aload_n (i := 0) (pc' := 20) dX12_nearest_19 rfl rfl 0 rfl ?_
      obtain ⟨v3, e3, H⟩ := bs H
      refine j_getR (pc' := 23) dX12_nearest_20 rfl fl_X12_70 e3 (fun r3 => ?_)
      refine j_iload (pc' := 25) dX12_nearest_23 rfl 4 rfl ?_
      obtain ⟨v4, e4, H⟩ := bs H
      refine j_iald (pc' := 26) dX12_nearest_25 rfl e4 (fun r4 => ?_)
      refine j_iadd (pc' := 27) dX12_nearest_26 rfl ?_
      obtain ⟨v5, e5, H⟩ := bs H
      refine j_iald (pc' := 28) dX12_nearest_27 rfl e5 (fun r5 => ?_)
      refine j_aload_n (i := 0) (pc' := 29) dX12_nearest_28 rfl rfl 0 rfl ?_
      obtain ⟨v6, e6, H⟩ := bs H
      refine j_getR (pc' := 32) dX12_nearest_29 rfl fl_X12_16 e6 (fun r6 => ?_)
      refine j_bipush (pc' := 34) dX12_nearest_32 rfl (by decide +kernel) ?_
      refine j_iload_n (i := 1) (pc' := 35) dX12_nearest_34 rfl rfl 1 rfl ?_
      refine j_imul (pc' := 36) dX12_nearest_35 rfl ?_
      refine j_aload_n (i := 0) (pc' := 37) dX12_nearest_36 rfl rfl 0 rfl ?_
      obtain ⟨v7, e7, H⟩ := bs H
      refine j_getR (pc' := 40) dX12_nearest_37 rfl fl_X12_70 e7 (fun r7 => ?_)
      refine j_iload_n (i := 3) (pc' := 41) dX12_nearest_40 rfl rfl 3 rfl ?_
      obtain ⟨v8, e8, H⟩ := bs H
      refine j_iald (pc' := 42) dX12_nearest_41 rfl e8 (fun r8 => ?_)
      refine j_iadd (pc' := 43) dX12_nearest_42 rfl ?_
      obtain ⟨v9, e9, H⟩ := bs H
      refine j_iald (pc' := 44) dX12_nearest_43 rfl e9 (fun r9 => ?_)
      refine j_icmp_ge (tgt := 50) (pc' := 47) dX12_nearest_44 (by decide) rfl r5 r9 (fun c10 => ?_) (fun c10 => ?_)
      · rw [if_pos c10] at H
        exact tX12_nearest_50 _ ih x0 x1 x2 x3 x4 h rx1 rx2 rx3 rx4 H
      · rw [if_neg c10] at H
        refine j_iload (pc' := 49) dX12_nearest_47 rfl 4 rfl ?_
        refine j_istore_n (i := 3) (lv' := [(0, vr x0), (1, vi x1), (2, vi x2), (3, vi x4), (4, vi x4)]) (pc' := 50) dX12_nearest_49 rfl rfl (by decide) [1, 2, 3, 0, 4] rfl ?_
        exact tX12_nearest_50 _ ih x0 x1 x2 x4 x4 h rx1 rx2 rx4 rx4 H
noncomputable def fX12_nearest (a0 : Nat) (a1 : Int) (a2 : Int) (h : Hp) : Option (Int × Hp) :=
  fX12_nearest_5 FU a0 a1 a2 0 1 h
theorem tX12_nearest {L : Nat} {xs : Nat → Int32} {l : Launch} {res : Int × Hp} (a0 : Nat) (a1 : Int) (a2 : Int) (h : Hp) (ra1 : R32 a1) (ra2 : R32 a2) (H : fX12_nearest a0 a1 a2 h = some res) : J L xs l RX12 cX12_nearest 5 false 1 (QI res) 0 0 0 (alv 0 [vr a0, vi a1, vi a2]) [] h := by
  unfold fX12_nearest at H
  show J L xs l RX12 cX12_nearest 5 false 1 (QI res) 0 0 0 [(0, vr a0), (1, vi a1), (2, vi a2)] [] h
  refine j_iconst (pc' := 1) dX12_nearest_0 rfl ?_
  refine j_istore_n (i := 3) (lv' := [(0, vr a0), (1, vi a1), (2, vi a2), (3, vi 0)]) (pc' := 2) dX12_nearest_1 rfl rfl (by decide) [1, 2, 3, 0] rfl ?_
  refine j_iconst (pc' := 3) dX12_nearest_2 rfl ?_
  refine j_istore (lv' := [(0, vr a0), (1, vi a1), (2, vi a2), (3, vi 0), (4, vi 1)]) (pc' := 5) dX12_nearest_3 rfl (by decide) [1, 2, 3, 4, 0] rfl ?_
  exact tX12_nearest_5   FU a0 a1 a2 0 1 h ra1 ra2 ⟨by decide, by decide⟩ ⟨by decide, by decide⟩ H
-- X12_centres
noncomputable def fX12_centres_18 (x0 : Nat) (h : Hp) : Option (Int × Hp) :=
  (cob h 11 x0).bind fun _ => (fX12_no x0 1 h).bind fun p2 => some (p2.1, p2.2)
theorem tX12_centres_18 {L : Nat} {xs : Nat → Int32} {l : Launch} {res : Int × Hp} (x0 : Nat) (h : Hp)  (H : fX12_centres_18 x0 h = some res) : J L xs l RX12 cX12_centres 7 false 3 (QI res) 0 0 18 [(0, vr x0)] [] h := by
  unfold fX12_centres_18 at H
  refine j_aload_n (i := 0) (pc' := 19) dX12_centres_18 rfl rfl 0 rfl ?_
  refine j_iconst (pc' := 20) dX12_centres_19 rfl ?_
  obtain ⟨u1, e1, H⟩ := bs H
  obtain ⟨p2, e2, H⟩ := bs H
  refine j_cVi (y := yX12_no) (dY := 1) (vs := [vi 1]) (st := []) (q := x0) (pc' := 23) dX12_centres_20 rfl ymX12_no yvX12_no ml_X12_98 (by decide) rfl (Nat.le_of_ble_eq_true rfl) (Nat.le_of_ble_eq_true rfl) e1 (tX12_no x0 1 h ⟨by decide, by decide⟩ e2) (fun r2 z2 => ?_)
  obtain rfl := Option.some.inj H
  exact j_iret dX12_centres_23 r2 ⟨rfl, rfl⟩
noncomputable def fX12_centres_176 (x0 : Nat) (x2 : Int) (h : Hp) : Option (Int × Hp) :=
  (getR h 11 x0 20).bind fun v1 => (cob h 11 x0).bind fun _ => (fX12_number x0 v1 h).bind fun p3 => (getR p3.2 11 x0 20).bind fun v4 => (cob p3.2 11 x0).bind fun _ => (fX12_become x0 v4 p3.2).bind fun h6 => some (x2, h6)
theorem tX12_centres_176 {L : Nat} {xs : Nat → Int32} {l : Launch} {res : Int × Hp} (x0 : Nat) (x2 : Int) (h : Hp) (rx2 : R32 x2) (H : fX12_centres_176 x0 x2 h = some res) : J L xs l RX12 cX12_centres 7 false 3 (QI res) 0 0 176 [(0, vr x0), (2, vi x2)] [] h := by
  unfold fX12_centres_176 at H
  refine j_aload_n (i := 0) (pc' := 177) dX12_centres_176 rfl rfl 0 rfl ?_
  refine j_aload_n (i := 0) (pc' := 178) dX12_centres_177 rfl rfl 0 rfl ?_
  obtain ⟨v1, e1, H⟩ := bs H
  refine j_getR (pc' := 181) dX12_centres_178 rfl fl_X12_58 e1 (fun r1 => ?_)
  obtain ⟨u2, e2, H⟩ := bs H
  obtain ⟨p3, e3, H⟩ := bs H
  refine j_cVi (y := yX12_number) (dY := 2) (vs := [vr v1]) (st := []) (q := x0) (pc' := 184) dX12_centres_181 rfl ymX12_number yvX12_number ml_X12_147 (by decide) rfl (Nat.le_of_ble_eq_true rfl) (Nat.le_of_ble_eq_true rfl) e2 (tX12_number x0 v1 h e3) (fun r3 z3 => ?_)
  refine j_pop (pc' := 185) dX12_centres_184 rfl rfl ?_
  refine j_aload_n (i := 0) (pc' := 186) dX12_centres_185 rfl rfl 0 rfl ?_
  refine j_aload_n (i := 0) (pc' := 187) dX12_centres_186 rfl rfl 0 rfl ?_
  obtain ⟨v4, e4, H⟩ := bs H
  refine j_getR (pc' := 190) dX12_centres_187 rfl fl_X12_58 e4 (fun r4 => ?_)
  obtain ⟨u5, e5, H⟩ := bs H
  obtain ⟨h6, e6, H⟩ := bs H
  refine j_cVv (y := yX12_become) (dY := 2) (vs := [vr v4]) (st := []) (q := x0) (pc' := 193) dX12_centres_190 rfl ymX12_become yvX12_become ml_X12_150 (by decide) rfl (Nat.le_of_ble_eq_true rfl) (Nat.le_of_ble_eq_true rfl) e5 (tX12_become x0 v4 p3.2 e6) (fun z6 => ?_)
  refine j_iload_n (i := 2) (pc' := 194) dX12_centres_193 rfl rfl 1 rfl ?_
  obtain rfl := Option.some.inj H
  exact j_iret dX12_centres_194 rx2 ⟨rfl, rfl⟩
noncomputable def fX12_centres_124 : Nat → Nat → Int → Int → Int → Hp → Option (Int × Hp)
  | 0, _, _, _, _, _ => none
  | n + 1, x0, x1, x2, x3, h => (cob h 11 x0).bind fun _ => (fX12_n x0 h).bind fun p2 => if p2.1 ≤ x3 then (fX12_centres_176 x0 x2 p2.2) else ((getR p2.2 11 x0 20).bind fun v4 => (cob p2.2 11 x0).bind fun _ => (fX12_nearest x0 x3 x1 p2.2).bind fun p6 => (ast p6.2 0 v4 x3 p6.1).bind fun h7 => (getR h7 11 x0 2).bind fun v8 => (getR h7 11 x0 24).bind fun v9 => (getR h7 11 x0 20).bind fun v10 => (ald h7 0 v10 x3).bind fun v11 => (ald h7 0 v9 v11).bind fun v12 => (ald h7 0 v8 ((12 * x3) + v12)).bind fun v13 => (c32 (x3 + 1)).bind fun _ => fX12_centres_124 n x0 x1 (max x2 v13) (x3 + 1) h7)
theorem tX12_centres_124 {L : Nat} {xs : Nat → Int32} {l : Launch} {res : Int × Hp} : ∀ (n : Nat) (x0 : Nat) (x1 : Int) (x2 : Int) (x3 : Int) (h : Hp), R32 x1 → R32 x2 → R32 x3 → fX12_centres_124 n x0 x1 x2 x3 h = some res → J L xs l RX12 cX12_centres 7 false 3 (QI res) 0 0 124 [(0, vr x0), (1, vi x1), (2, vi x2), (3, vi x3)] [] h := by
  intro n
  induction n with
  | zero => intro x0 x1 x2 x3 h rx1 rx2 rx3 H; cases H
  | succ n ih =>
    intro x0 x1 x2 x3 h rx1 rx2 rx3 H
    rw [fX12_centres_124] at H
    refine j_iload_n (i := 3) (pc' := 125) dX12_centres_124 rfl rfl 3 rfl ?_
    refine j_aload_n (i := 0) (pc' := 126) dX12_centres_125 rfl rfl 0 rfl ?_
    obtain ⟨u1, e1, H⟩ := bs H
    obtain ⟨p2, e2, H⟩ := bs H
    refine j_cVi (y := yX12_n) (dY := 1) (vs := []) (st := [vi x3]) (q := x0) (pc' := 129) dX12_centres_126 rfl ymX12_n yvX12_n ml_X12_90 (by decide) rfl (Nat.le_of_ble_eq_true rfl) (Nat.le_of_ble_eq_true rfl) e1 (tX12_n x0 h e2) (fun r2 z2 => ?_)
    refine j_icmp_ge (tgt := 176) (pc' := 132) dX12_centres_129 (by decide) rfl rx3 r2 (fun c3 => ?_) (fun c3 => ?_)
    · rw [if_pos c3] at H
      refine j_sub (lv' := [(0, vr x0), (2, vi x2)]) [0, 2] rfl ?_
      exact tX12_centres_176   x0 x2 p2.2 rx2 H
    · rw [if_neg c3] at H
      refine j_aload_n (i := 0) (pc' := 133) dX12_centres_132 rfl rfl 0 rfl ?_
      obtain ⟨v4, e4, H⟩ := bs H
      refine j_getR (pc' := 136) dX12_centres_133 rfl fl_X12_58 e4 (fun r4 => ?_)
      refine j_iload_n (i := 3) (pc' := 137) dX12_centres_136 rfl rfl 3 rfl ?_
      refine j_aload_n (i := 0) (pc' := 138) dX12_centres_137 rfl rfl 0 rfl ?_
      refine j_iload_n (i := 3) (pc' := 139) dX12_centres_138 rfl rfl 3 rfl ?_
      refine j_iload_n (i := 1) (pc' := 140) dX12_centres_139 rfl rfl 1 rfl ?_
      obtain ⟨u5, e5, H⟩ := bs H
      obtain ⟨p6, e6, H⟩ := bs H
      refine j_cVi (y := yX12_nearest) (dY := 1) (vs := [vi x3, vi x1]) (st := [vi x3, vr v4]) (q := x0) (pc' := 143) dX12_centres_140 rfl ymX12_nearest yvX12_nearest ml_X12_186 (by decide) rfl (Nat.le_of_ble_eq_true rfl) (Nat.le_of_ble_eq_true rfl) e5 (tX12_nearest x0 x3 x1 p2.2 rx3 rx1 e6) (fun r6 z6 => ?_)
      obtain ⟨h7, e7, H⟩ := bs H
      refine j_iast (pc' := 144) dX12_centres_143 rfl r6 e7 ?_
      refine j_iload_n (i := 2) (pc' := 145) dX12_centres_144 rfl rfl 2 rfl ?_
      refine j_aload_n (i := 0) (pc' := 146) dX12_centres_145 rfl rfl 0 rfl ?_
      obtain ⟨v8, e8, H⟩ := bs H
      refine j_getR (pc' := 149) dX12_centres_146 rfl fl_X12_16 e8 (fun r8 => ?_)
      refine j_bipush (pc' := 151) dX12_centres_149 rfl (by decide +kernel) ?_
      refine j_iload_n (i := 3) (pc' := 152) dX12_centres_151 rfl rfl 3 rfl ?_
      refine j_imul (pc' := 153) dX12_centres_152 rfl ?_
      refine j_aload_n (i := 0) (pc' := 154) dX12_centres_153 rfl rfl 0 rfl ?_
      obtain ⟨v9, e9, H⟩ := bs H
      refine j_getR (pc' := 157) dX12_centres_154 rfl fl_X12_70 e9 (fun r9 => ?_)
      refine j_aload_n (i := 0) (pc' := 158) dX12_centres_157 rfl rfl 0 rfl ?_
      obtain ⟨v10, e10, H⟩ := bs H
      refine j_getR (pc' := 161) dX12_centres_158 rfl fl_X12_58 e10 (fun r10 => ?_)
      refine j_iload_n (i := 3) (pc' := 162) dX12_centres_161 rfl rfl 3 rfl ?_
      obtain ⟨v11, e11, H⟩ := bs H
      refine j_iald (pc' := 163) dX12_centres_162 rfl e11 (fun r11 => ?_)
      obtain ⟨v12, e12, H⟩ := bs H
      refine j_iald (pc' := 164) dX12_centres_163 rfl e12 (fun r12 => ?_)
      refine j_iadd (pc' := 165) dX12_centres_164 rfl ?_
      obtain ⟨v13, e13, H⟩ := bs H
      refine j_iald (pc' := 166) dX12_centres_165 rfl e13 (fun r13 => ?_)
      refine j_mmax (pc' := 169) dX12_centres_166 rfl ml_X12_125 (by decide) (Nat.le_of_ble_eq_true rfl) rx2 r13 ?_
      refine j_istore_n (i := 2) (lv' := [(0, vr x0), (1, vi x1), (2, vi (max x2 v13)), (3, vi x3)]) (pc' := 170) dX12_centres_169 rfl rfl (by decide) [1, 2, 0, 3] rfl ?_
      obtain ⟨u14, e14, H⟩ := bs H
      have r14 := c32_R e14
      refine j_iinc (k0 := 3) (lv' := [(0, vr x0), (1, vi x1), (2, vi (max x2 v13)), (3, vi (x3 + 1))]) (pc' := 173) dX12_centres_170 rfl rfl (by decide) [1, 2, 3, 0] rfl ?_
      refine j_goto (tgt := 124) dX12_centres_173 (by decide) ?_
      exact ih x0 x1 (max x2 v13) (x3 + 1) h7 rx1 (R32_max rx2 r13) r14 H
noncomputable def fX12_centres_120 (x0 : Nat) (x1 : Int) (h : Hp) : Option (Int × Hp) :=
  fX12_centres_124 FU x0 x1 0 0 h
theorem tX12_centres_120 {L : Nat} {xs : Nat → Int32} {l : Launch} {res : Int × Hp} (x0 : Nat) (x1 : Int) (h : Hp) (rx1 : R32 x1) (H : fX12_centres_120 x0 x1 h = some res) : J L xs l RX12 cX12_centres 7 false 3 (QI res) 0 0 120 [(0, vr x0), (1, vi x1)] [] h := by
  unfold fX12_centres_120 at H
  refine j_iconst (pc' := 121) dX12_centres_120 rfl ?_
  refine j_istore_n (i := 2) (lv' := [(0, vr x0), (1, vi x1), (2, vi 0)]) (pc' := 122) dX12_centres_121 rfl rfl (by decide) [1, 2, 0] rfl ?_
  refine j_iconst (pc' := 123) dX12_centres_122 rfl ?_
  refine j_istore_n (i := 3) (lv' := [(0, vr x0), (1, vi x1), (2, vi 0), (3, vi 0)]) (pc' := 124) dX12_centres_123 rfl rfl (by decide) [1, 2, 3, 0] rfl ?_
  exact tX12_centres_124   FU x0 x1 0 0 h rx1 ⟨by decide, by decide⟩ ⟨by decide, by decide⟩ H
noncomputable def fX12_centres_107 (k37 : Nat → Int → Int → Hp → Option (Int × Hp)) (x0 : Nat) (x1 : Int) (x2 : Int) (x3 : Int) (h : Hp) : Option (Int × Hp) :=
  (getR h 11 x0 24).bind fun v1 => (ast h 0 v1 x2 x3).bind fun h2 => (c32 (x2 + 1)).bind fun _ => k37 x0 x1 (x2 + 1) h2
theorem tX12_centres_107 {L : Nat} {xs : Nat → Int32} {l : Launch} {res : Int × Hp} (k37 : Nat → Int → Int → Hp → Option (Int × Hp)) (hk37 : ∀ (x0 : Nat) (x1 : Int) (x2 : Int) (h : Hp), R32 x1 → R32 x2 → k37 x0 x1 x2 h = some res → J L xs l RX12 cX12_centres 7 false 3 (QI res) 0 0 37 [(0, vr x0), (1, vi x1), (2, vi x2)] [] h) (x0 : Nat) (x1 : Int) (x2 : Int) (x3 : Int) (h : Hp) (rx1 : R32 x1) (rx2 : R32 x2) (rx3 : R32 x3) (H : fX12_centres_107 k37 x0 x1 x2 x3 h = some res) : J L xs l RX12 cX12_centres 7 false 3 (QI res) 0 0 107 [(0, vr x0), (1, vi x1), (2, vi x2), (3, vi x3)] [] h := by
  unfold fX12_centres_107 at H
  refine j_aload_n (i := 0) (pc' := 108) dX12_centres_107 rfl rfl 0 rfl ?_
  obtain ⟨v1, e1, H⟩ := bs H
  refine j_getR (pc' := 111) dX12_centres_108 rfl fl_X12_70 e1 (fun r1 => ?_)
  refine j_iload_n (i := 2) (pc' := 112) dX12_centres_111 rfl rfl 2 rfl ?_
  refine j_iload_n (i := 3) (pc' := 113) dX12_centres_112 rfl rfl 3 rfl ?_
  obtain ⟨h2, e2, H⟩ := bs H
  refine j_iast (pc' := 114) dX12_centres_113 rfl rx3 e2 ?_
  obtain ⟨u3, e3, H⟩ := bs H
  have r3 := c32_R e3
  refine j_iinc (k0 := 2) (lv' := [(0, vr x0), (1, vi x1), (2, vi (x2 + 1)), (3, vi x3)]) (pc' := 117) dX12_centres_114 rfl rfl (by decide) [1, 2, 0, 3] rfl ?_
  refine j_goto (tgt := 37) dX12_centres_117 (by decide) ?_
  refine j_sub (lv' := [(0, vr x0), (1, vi x1), (2, vi (x2 + 1))]) [0, 1, 2] rfl ?_
  exact hk37 x0 x1 (x2 + 1) h2 rx1 r3 H
noncomputable def fX12_centres_101 (k37 : Nat → Int → Int → Hp → Option (Int × Hp)) (k50 : Nat → Int → Int → Int → Int → Int → Hp → Option (Int × Hp)) (x0 : Nat) (x1 : Int) (x2 : Int) (x3 : Int) (x4 : Int) (x5 : Int) (h : Hp) : Option (Int × Hp) :=
  (c32 (x5 + 1)).bind fun _ => k50 x0 x1 x2 x3 x4 (x5 + 1) h
theorem tX12_centres_101 {L : Nat} {xs : Nat → Int32} {l : Launch} {res : Int × Hp} (k37 : Nat → Int → Int → Hp → Option (Int × Hp)) (k50 : Nat → Int → Int → Int → Int → Int → Hp → Option (Int × Hp)) (hk37 : ∀ (x0 : Nat) (x1 : Int) (x2 : Int) (h : Hp), R32 x1 → R32 x2 → k37 x0 x1 x2 h = some res → J L xs l RX12 cX12_centres 7 false 3 (QI res) 0 0 37 [(0, vr x0), (1, vi x1), (2, vi x2)] [] h) (hk50 : ∀ (x0 : Nat) (x1 : Int) (x2 : Int) (x3 : Int) (x4 : Int) (x5 : Int) (h : Hp), R32 x1 → R32 x2 → R32 x3 → R32 x4 → R32 x5 → k50 x0 x1 x2 x3 x4 x5 h = some res → J L xs l RX12 cX12_centres 7 false 3 (QI res) 0 0 50 [(0, vr x0), (1, vi x1), (2, vi x2), (3, vi x3), (4, vi x4), (5, vi x5)] [] h) (x0 : Nat) (x1 : Int) (x2 : Int) (x3 : Int) (x4 : Int) (x5 : Int) (h : Hp) (rx1 : R32 x1) (rx2 : R32 x2) (rx3 : R32 x3) (rx4 : R32 x4) (rx5 : R32 x5) (H : fX12_centres_101 k37 k50 x0 x1 x2 x3 x4 x5 h = some res) : J L xs l RX12 cX12_centres 7 false 3 (QI res) 0 0 101 [(0, vr x0), (1, vi x1), (2, vi x2), (3, vi x3), (4, vi x4), (5, vi x5)] [] h := by
  unfold fX12_centres_101 at H
  obtain ⟨u1, e1, H⟩ := bs H
  have r1 := c32_R e1
  refine j_iinc (k0 := 5) (lv' := [(0, vr x0), (1, vi x1), (2, vi x2), (3, vi x3), (4, vi x4), (5, vi (x5 + 1))]) (pc' := 104) dX12_centres_101 rfl rfl (by decide) [1, 2, 3, 4, 5, 0] rfl ?_
  refine j_goto (tgt := 50) dX12_centres_104 (by decide) ?_
  exact hk50 x0 x1 x2 x3 x4 (x5 + 1) h rx1 rx2 rx3 rx4 r1 H
noncomputable def fX12_centres_50 (k37 : Nat → Int → Int → Hp → Option (Int × Hp)) : Nat → Nat → Int → Int → Int → Int → Int → Hp → Option (Int × Hp)
  | 0, _, _, _, _, _, _, _ => none
  | n + 1, x0, x1, x2, x3, x4, x5, h => (cob h 11 x0).bind fun _ => (fX12_n x0 h).bind fun p2 => if p2.1 ≤ x5 then (fX12_centres_107 k37 x0 x1 x2 x3 p2.2) else ((getR p2.2 11 x0 2).bind fun v4 => (getR p2.2 11 x0 24).bind fun v5 => (cob p2.2 11 x0).bind fun _ => (fX12_nearest x0 x5 x2 p2.2).bind fun p7 => (ald p7.2 0 v5 p7.1).bind fun v8 => (ald p7.2 0 v4 ((12 * x5) + v8)).bind fun v9 => if x4 < v9 then (fX12_centres_101 k37 (fX12_centres_50 k37 n) x0 x1 x2 x5 v9 x5 p7.2) else (fX12_centres_101 k37 (fX12_centres_50 k37 n) x0 x1 x2 x3 x4 x5 p7.2))
theorem tX12_centres_50 {L : Nat} {xs : Nat → Int32} {l : Launch} {res : Int × Hp} (k37 : Nat → Int → Int → Hp → Option (Int × Hp)) (hk37 : ∀ (x0 : Nat) (x1 : Int) (x2 : Int) (h : Hp), R32 x1 → R32 x2 → k37 x0 x1 x2 h = some res → J L xs l RX12 cX12_centres 7 false 3 (QI res) 0 0 37 [(0, vr x0), (1, vi x1), (2, vi x2)] [] h) : ∀ (n : Nat) (x0 : Nat) (x1 : Int) (x2 : Int) (x3 : Int) (x4 : Int) (x5 : Int) (h : Hp), R32 x1 → R32 x2 → R32 x3 → R32 x4 → R32 x5 → fX12_centres_50 k37 n x0 x1 x2 x3 x4 x5 h = some res → J L xs l RX12 cX12_centres 7 false 3 (QI res) 0 0 50 [(0, vr x0), (1, vi x1), (2, vi x2), (3, vi x3), (4, vi x4), (5, vi x5)] [] h := by
  intro n
  induction n with
  | zero => intro x0 x1 x2 x3 x4 x5 h rx1 rx2 rx3 rx4 rx5 H; cases H
  | succ n ih =>
    intro x0 x1 x2 x3 x4 x5 h rx1 rx2 rx3 rx4 rx5 H
    rw [fX12_centres_50] at H
    refine j_iload (pc' := 52) dX12_centres_50 rfl 5 rfl ?_
    refine j_aload_n (i := 0) (pc' := 53) dX12_centres_52 rfl rfl 0 rfl ?_
    obtain ⟨u1, e1, H⟩ := bs H
    obtain ⟨p2, e2, H⟩ := bs H
    refine j_cVi (y := yX12_n) (dY := 1) (vs := []) (st := [vi x5]) (q := x0) (pc' := 56) dX12_centres_53 rfl ymX12_n yvX12_n ml_X12_90 (by decide) rfl (Nat.le_of_ble_eq_true rfl) (Nat.le_of_ble_eq_true rfl) e1 (tX12_n x0 h e2) (fun r2 z2 => ?_)
    refine j_icmp_ge (tgt := 107) (pc' := 59) dX12_centres_56 (by decide) rfl rx5 r2 (fun c3 => ?_) (fun c3 => ?_)
    · rw [if_pos c3] at H
      refine j_sub (lv' := [(0, vr x0), (1, vi x1), (2, vi x2), (3, vi x3)]) [0, 1, 2, 3] rfl ?_
      exact tX12_centres_107 _ hk37 x0 x1 x2 x3 p2.2 rx1 rx2 rx3 H
    · rw [if_neg c3] at H
      refine j_aload_n (i := 0) (pc' := 60) dX12_centres_59 rfl rfl 0 rfl ?_
      obtain ⟨v4, e4, H⟩ := bs H
      refine j_getR (pc' := 63) dX12_centres_60 rfl fl_X12_16 e4 (fun r4 => ?_)
      refine j_bipush (pc' := 65) dX12_centres_63 rfl (by decide +kernel) ?_
      refine j_iload (pc' := 67) dX12_centres_65 rfl 5 rfl ?_
      refine j_imul (pc' := 68) dX12_centres_67 rfl ?_
      refine j_aload_n (i := 0) (pc' := 69) dX12_centres_68 rfl rfl 0 rfl ?_
      obtain ⟨v5, e5, H⟩ := bs H
      refine j_getR (pc' := 72) dX12_centres_69 rfl fl_X12_70 e5 (fun r5 => ?_)
      refine j_aload_n (i := 0) (pc' := 73) dX12_centres_72 rfl rfl 0 rfl ?_
      refine j_iload (pc' := 75) dX12_centres_73 rfl 5 rfl ?_
      refine j_iload_n (i := 2) (pc' := 76) dX12_centres_75 rfl rfl 2 rfl ?_
      obtain ⟨u6, e6, H⟩ := bs H
      obtain ⟨p7, e7, H⟩ := bs H
      refine j_cVi (y := yX12_nearest) (dY := 1) (vs := [vi x5, vi x2]) (st := [vr v5, vi (12 * x5), vr v4]) (q := x0) (pc' := 79) dX12_centres_76 rfl ymX12_nearest yvX12_nearest ml_X12_186 (by decide) rfl (Nat.le_of_ble_eq_true rfl) (Nat.le_of_ble_eq_true rfl) e6 (tX12_nearest x0 x5 x2 p2.2 rx5 rx2 e7) (fun r7 z7 => ?_)
      obtain ⟨v8, e8, H⟩ := bs H
      refine j_iald (pc' := 80) dX12_centres_79 rfl e8 (fun r8 => ?_)
      refine j_iadd (pc' := 81) dX12_centres_80 rfl ?_
      obtain ⟨v9, e9, H⟩ := bs H
      refine j_iald (pc' := 82) dX12_centres_81 rfl e9 (fun r9 => ?_)
      refine j_istore (lv' := [(0, vr x0), (1, vi x1), (2, vi x2), (3, vi x3), (4, vi x4), (5, vi x5), (6, vi v9)]) (pc' := 84) dX12_centres_82 rfl (by decide) [1, 2, 3, 4, 5, 6, 0] rfl ?_
      refine j_iload (pc' := 86) dX12_centres_84 rfl 6 rfl ?_
      refine j_iload (pc' := 88) dX12_centres_86 rfl 4 rfl ?_
      refine j_icmp_gt (tgt := 94) (pc' := 91) dX12_centres_88 (by decide) rfl r9 rx4 (fun c10 => ?_) (fun c10 => ?_)
      · rw [if_pos c10] at H
        refine j_iload (pc' := 96) dX12_centres_94 rfl 6 rfl ?_
        refine j_istore (lv' := [(0, vr x0), (1, vi x1), (2, vi x2), (3, vi x3), (4, vi v9), (5, vi x5), (6, vi v9)]) (pc' := 98) dX12_centres_96 rfl (by decide) [1, 2, 3, 4, 0, 5, 6] rfl ?_
        refine j_iload (pc' := 100) dX12_centres_98 rfl 5 rfl ?_
        refine j_istore_n (i := 3) (lv' := [(0, vr x0), (1, vi x1), (2, vi x2), (3, vi x5), (4, vi v9), (5, vi x5), (6, vi v9)]) (pc' := 101) dX12_centres_100 rfl rfl (by decide) [1, 2, 3, 0, 4, 5, 6] rfl ?_
        refine j_sub (lv' := [(0, vr x0), (1, vi x1), (2, vi x2), (3, vi x5), (4, vi v9), (5, vi x5)]) [0, 1, 2, 3, 4, 5] rfl ?_
        exact tX12_centres_101 _ _ hk37 ih x0 x1 x2 x5 v9 x5 p7.2 rx1 rx2 rx5 r9 rx5 H
      · rw [if_neg c10] at H
        refine j_goto (tgt := 101) dX12_centres_91 (by decide) ?_
        refine j_sub (lv' := [(0, vr x0), (1, vi x1), (2, vi x2), (3, vi x3), (4, vi x4), (5, vi x5)]) [0, 1, 2, 3, 4, 5] rfl ?_
        exact tX12_centres_101 _ _ hk37 ih x0 x1 x2 x3 x4 x5 p7.2 rx1 rx2 rx3 rx4 rx5 H
noncomputable def fX12_centres_37 : Nat → Nat → Int → Int → Hp → Option (Int × Hp)
  | 0, _, _, _, _ => none
  | n + 1, x0, x1, x2, h => if x1 ≤ x2 then (fX12_centres_120 x0 x1 h) else (fX12_centres_50 (fX12_centres_37 n) FU x0 x1 x2 0 (-1) 0 h)
theorem tX12_centres_37 {L : Nat} {xs : Nat → Int32} {l : Launch} {res : Int × Hp} : ∀ (n : Nat) (x0 : Nat) (x1 : Int) (x2 : Int) (h : Hp), R32 x1 → R32 x2 → fX12_centres_37 n x0 x1 x2 h = some res → J L xs l RX12 cX12_centres 7 false 3 (QI res) 0 0 37 [(0, vr x0), (1, vi x1), (2, vi x2)] [] h := by
  intro n
  induction n with
  | zero => intro x0 x1 x2 h rx1 rx2 H; cases H
  | succ n ih =>
    intro x0 x1 x2 h rx1 rx2 H
    rw [fX12_centres_37] at H
    refine j_iload_n (i := 2) (pc' := 38) dX12_centres_37 rfl rfl 2 rfl ?_
    refine j_iload_n (i := 1) (pc' := 39) dX12_centres_38 rfl rfl 1 rfl ?_
    refine j_icmp_ge (tgt := 120) (pc' := 42) dX12_centres_39 (by decide) rfl rx2 rx1 (fun c1 => ?_) (fun c1 => ?_)
    · rw [if_pos c1] at H
      refine j_sub (lv' := [(0, vr x0), (1, vi x1)]) [0, 1] rfl ?_
      exact tX12_centres_120   x0 x1 h rx1 H
    · rw [if_neg c1] at H
      refine j_iconst (pc' := 43) dX12_centres_42 rfl ?_
      refine j_istore_n (i := 3) (lv' := [(0, vr x0), (1, vi x1), (2, vi x2), (3, vi 0)]) (pc' := 44) dX12_centres_43 rfl rfl (by decide) [1, 2, 3, 0] rfl ?_
      refine j_iconst (pc' := 45) dX12_centres_44 rfl ?_
      refine j_istore (lv' := [(0, vr x0), (1, vi x1), (2, vi x2), (3, vi 0), (4, vi (-1))]) (pc' := 47) dX12_centres_45 rfl (by decide) [1, 2, 3, 4, 0] rfl ?_
      refine j_iconst (pc' := 48) dX12_centres_47 rfl ?_
      refine j_istore (lv' := [(0, vr x0), (1, vi x1), (2, vi x2), (3, vi 0), (4, vi (-1)), (5, vi 0)]) (pc' := 50) dX12_centres_48 rfl (by decide) [1, 2, 3, 4, 5, 0] rfl ?_
      exact tX12_centres_50 _ ih FU x0 x1 x2 0 (-1) 0 h rx1 rx2 ⟨by decide, by decide⟩ ⟨by decide, by decide⟩ ⟨by decide, by decide⟩ H
noncomputable def fX12_centres (a0 : Nat) (a1 : Int) (h : Hp) : Option (Int × Hp) :=
  (putV h 11 a0 19 (vi 0)).bind fun h1 => if a1 < 1 then (fX12_centres_18 a0 h1) else ((cob h1 11 a0).bind fun _ => (fX12_n a0 h1).bind fun p4 => if a1 ≤ p4.1 then ((cob p4.2 11 a0).bind fun _ => (fX12_change a0 p4.2).bind fun h7 => (getR h7 11 a0 24).bind fun v8 => (ast h7 0 v8 0 0).bind fun h9 => fX12_centres_37 FU a0 a1 1 h9) else (fX12_centres_18 a0 p4.2))
theorem tX12_centres {L : Nat} {xs : Nat → Int32} {l : Launch} {res : Int × Hp} (a0 : Nat) (a1 : Int) (h : Hp) (ra1 : R32 a1) (H : fX12_centres a0 a1 h = some res) : J L xs l RX12 cX12_centres 7 false 3 (QI res) 0 0 0 (alv 0 [vr a0, vi a1]) [] h := by
  unfold fX12_centres at H
  show J L xs l RX12 cX12_centres 7 false 3 (QI res) 0 0 0 [(0, vr a0), (1, vi a1)] [] h
  refine j_aload_n (i := 0) (pc' := 1) dX12_centres_0 rfl rfl 0 rfl ?_
  refine j_iconst (pc' := 2) dX12_centres_1 rfl ?_
  obtain ⟨h1, e1, H⟩ := bs H
  refine j_putV (pc' := 5) dX12_centres_2 rfl fp_X12_77 tI ⟨by decide, by decide⟩ e1 ?_
  refine j_iload_n (i := 1) (pc' := 6) dX12_centres_5 rfl rfl 1 rfl ?_
  refine j_iconst (pc' := 7) dX12_centres_6 rfl ?_
  refine j_icmp_lt (tgt := 18) (pc' := 10) dX12_centres_7 (by decide) rfl ra1 ⟨by decide, by decide⟩ (fun c2 => ?_) (fun c2 => ?_)
  · rw [if_pos c2] at H
    refine j_sub (lv' := [(0, vr a0)]) [0] rfl ?_
    exact tX12_centres_18   a0 h1  H
  · rw [if_neg c2] at H
    refine j_iload_n (i := 1) (pc' := 11) dX12_centres_10 rfl rfl 1 rfl ?_
    refine j_aload_n (i := 0) (pc' := 12) dX12_centres_11 rfl rfl 0 rfl ?_
    obtain ⟨u3, e3, H⟩ := bs H
    obtain ⟨p4, e4, H⟩ := bs H
    refine j_cVi (y := yX12_n) (dY := 1) (vs := []) (st := [vi a1]) (q := a0) (pc' := 15) dX12_centres_12 rfl ymX12_n yvX12_n ml_X12_90 (by decide) rfl (Nat.le_of_ble_eq_true rfl) (Nat.le_of_ble_eq_true rfl) e3 (tX12_n a0 h1 e4) (fun r4 z4 => ?_)
    refine j_icmp_le (tgt := 24) (pc' := 18) dX12_centres_15 (by decide) rfl ra1 r4 (fun c5 => ?_) (fun c5 => ?_)
    · rw [if_pos c5] at H
      refine j_aload_n (i := 0) (pc' := 25) dX12_centres_24 rfl rfl 0 rfl ?_
      obtain ⟨u6, e6, H⟩ := bs H
      obtain ⟨h7, e7, H⟩ := bs H
      refine j_cVv (y := yX12_change) (dY := 2) (vs := []) (st := []) (q := a0) (pc' := 28) dX12_centres_25 rfl ymX12_change yvX12_change ml_X12_102 (by decide) rfl (Nat.le_of_ble_eq_true rfl) (Nat.le_of_ble_eq_true rfl) e6 (tX12_change a0 p4.2 e7) (fun z7 => ?_)
      refine j_aload_n (i := 0) (pc' := 29) dX12_centres_28 rfl rfl 0 rfl ?_
      obtain ⟨v8, e8, H⟩ := bs H
      refine j_getR (pc' := 32) dX12_centres_29 rfl fl_X12_70 e8 (fun r8 => ?_)
      refine j_iconst (pc' := 33) dX12_centres_32 rfl ?_
      refine j_iconst (pc' := 34) dX12_centres_33 rfl ?_
      obtain ⟨h9, e9, H⟩ := bs H
      refine j_iast (pc' := 35) dX12_centres_34 rfl ⟨by decide, by decide⟩ e9 ?_
      refine j_iconst (pc' := 36) dX12_centres_35 rfl ?_
      refine j_istore_n (i := 2) (lv' := [(0, vr a0), (1, vi a1), (2, vi 1)]) (pc' := 37) dX12_centres_36 rfl rfl (by decide) [1, 2, 0] rfl ?_
      exact tX12_centres_37   FU a0 a1 1 h9 ra1 ⟨by decide, by decide⟩ H
    · rw [if_neg c5] at H
      refine j_sub (lv' := [(0, vr a0)]) [0] rfl ?_
      exact tX12_centres_18   a0 p4.2  H
-- X12_like
noncomputable def fX12_like_30 (s0 : Int) (h : Hp) : Option (Int × Hp) :=
  (cbo s0).bind fun _ => some (s0, h)
theorem tX12_like_30 {L : Nat} {xs : Nat → Int32} {l : Launch} {res : Int × Hp} (s0 : Int) (h : Hp) (rs0 : R32 s0) (H : fX12_like_30 s0 h = some res) : J L xs l RX12 cX12_like 4 false 1 (QB res) 0 0 30 [] [vi s0] h := by
  unfold fX12_like_30 at H
  obtain ⟨u1, e1, H⟩ := bs H
  obtain rfl := Option.some.inj H
  exact j_iret dX12_like_30 rs0 ⟨rfl, rfl, cbo_R e1⟩
noncomputable def fX12_like_29  (h : Hp) : Option (Int × Hp) :=
  fX12_like_30 0 h
theorem tX12_like_29 {L : Nat} {xs : Nat → Int32} {l : Launch} {res : Int × Hp}  (h : Hp)  (H : fX12_like_29  h = some res) : J L xs l RX12 cX12_like 4 false 1 (QB res) 0 0 29 [] [] h := by
  unfold fX12_like_29 at H
  refine j_iconst (pc' := 30) dX12_like_29 rfl ?_
  exact tX12_like_30   0 h ⟨by decide, by decide⟩ H
noncomputable def fX12_like (a0 : Nat) (a1 : Int) (a2 : Int) (h : Hp) : Option (Int × Hp) :=
  (c32 ((12 * a1) + a2)).bind fun _ => (getR h 11 a0 3).bind fun v2 => (ald h 0 v2 ((12 * a1) + a2)).bind fun v3 => if v3 ≤ 0 then (fX12_like_29 h) else ((getR h 11 a0 4).bind fun v5 => (ald h 2 v5 ((12 * a1) + a2)).bind fun v6 => if v6 = 0 then (fX12_like_29 h) else (fX12_like_30 1 h))
theorem tX12_like {L : Nat} {xs : Nat → Int32} {l : Launch} {res : Int × Hp} (a0 : Nat) (a1 : Int) (a2 : Int) (h : Hp) (ra1 : R32 a1) (ra2 : R32 a2) (H : fX12_like a0 a1 a2 h = some res) : J L xs l RX12 cX12_like 4 false 1 (QB res) 0 0 0 (alv 0 [vr a0, vi a1, vi a2]) [] h := by
  unfold fX12_like at H
  show J L xs l RX12 cX12_like 4 false 1 (QB res) 0 0 0 [(0, vr a0), (1, vi a1), (2, vi a2)] [] h
  refine j_bipush (pc' := 2) dX12_like_0 rfl (by decide +kernel) ?_
  refine j_iload_n (i := 1) (pc' := 3) dX12_like_2 rfl rfl 1 rfl ?_
  refine j_imul (pc' := 4) dX12_like_3 rfl ?_
  refine j_iload_n (i := 2) (pc' := 5) dX12_like_4 rfl rfl 2 rfl ?_
  refine j_iadd (pc' := 6) dX12_like_5 rfl ?_
  obtain ⟨u1, e1, H⟩ := bs H
  have r1 := c32_R e1
  refine j_istore_n (i := 3) (lv' := [(0, vr a0), (1, vi a1), (2, vi a2), (3, vi ((12 * a1) + a2))]) (pc' := 7) dX12_like_6 rfl rfl (by decide) [1, 2, 3, 0] rfl ?_
  refine j_aload_n (i := 0) (pc' := 8) dX12_like_7 rfl rfl 0 rfl ?_
  obtain ⟨v2, e2, H⟩ := bs H
  refine j_getR (pc' := 11) dX12_like_8 rfl fl_X12_19 e2 (fun r2 => ?_)
  refine j_iload_n (i := 3) (pc' := 12) dX12_like_11 rfl rfl 3 rfl ?_
  obtain ⟨v3, e3, H⟩ := bs H
  refine j_iald (pc' := 13) dX12_like_12 rfl e3 (fun r3 => ?_)
  refine j_if_le (tgt := 29) (pc' := 16) dX12_like_13 (by decide) rfl r3 (fun c4 => ?_) (fun c4 => ?_)
  · rw [if_pos c4] at H
    refine j_sub (lv' := []) [] rfl ?_
    exact tX12_like_29   h  H
  · rw [if_neg c4] at H
    refine j_aload_n (i := 0) (pc' := 17) dX12_like_16 rfl rfl 0 rfl ?_
    obtain ⟨v5, e5, H⟩ := bs H
    refine j_getR (pc' := 20) dX12_like_17 rfl fl_X12_22 e5 (fun r5 => ?_)
    refine j_iload_n (i := 3) (pc' := 21) dX12_like_20 rfl rfl 3 rfl ?_
    obtain ⟨v6, e6, H⟩ := bs H
    refine j_zald (pc' := 22) dX12_like_21 rfl e6 (fun r6 => ?_)
    refine j_if_eq (tgt := 29) (pc' := 25) dX12_like_22 (by decide) rfl r6 (fun c7 => ?_) (fun c7 => ?_)
    · rw [if_pos c7] at H
      refine j_sub (lv' := []) [] rfl ?_
      exact tX12_like_29   h  H
    · rw [if_neg c7] at H
      refine j_iconst (pc' := 26) dX12_like_25 rfl ?_
      refine j_goto (tgt := 30) dX12_like_26 (by decide) ?_
      refine j_sub (lv' := []) [] rfl ?_
      exact tX12_like_30   1 h ⟨by decide, by decide⟩ H
-- X12_gather
noncomputable def fX12_gather_118 (x0 : Nat) (h : Hp) : Option (Int × Hp) :=
  (getR h 11 x0 20).bind fun v1 => (cob h 11 x0).bind fun _ => (fX12_number x0 v1 h).bind fun p3 => (getR p3.2 11 x0 20).bind fun v4 => (cob p3.2 11 x0).bind fun _ => (fX12_costOf x0 v4 3 p3.2).bind fun p6 => some (p6.1, p6.2)
theorem tX12_gather_118 {L : Nat} {xs : Nat → Int32} {l : Launch} {res : Int × Hp} (x0 : Nat) (h : Hp)  (H : fX12_gather_118 x0 h = some res) : J L xs l RX12 cX12_gather 6 false 5 (QL res) 0 0 118 [(0, vr x0)] [] h := by
  unfold fX12_gather_118 at H
  refine j_aload_n (i := 0) (pc' := 119) dX12_gather_118 rfl rfl 0 rfl ?_
  refine j_aload_n (i := 0) (pc' := 120) dX12_gather_119 rfl rfl 0 rfl ?_
  obtain ⟨v1, e1, H⟩ := bs H
  refine j_getR (pc' := 123) dX12_gather_120 rfl fl_X12_58 e1 (fun r1 => ?_)
  obtain ⟨u2, e2, H⟩ := bs H
  obtain ⟨p3, e3, H⟩ := bs H
  refine j_cVi (y := yX12_number) (dY := 2) (vs := [vr v1]) (st := []) (q := x0) (pc' := 126) dX12_gather_123 rfl ymX12_number yvX12_number ml_X12_147 (by decide) rfl (Nat.le_of_ble_eq_true rfl) (Nat.le_of_ble_eq_true rfl) e2 (tX12_number x0 v1 h e3) (fun r3 z3 => ?_)
  refine j_pop (pc' := 127) dX12_gather_126 rfl rfl ?_
  refine j_aload_n (i := 0) (pc' := 128) dX12_gather_127 rfl rfl 0 rfl ?_
  refine j_aload_n (i := 0) (pc' := 129) dX12_gather_128 rfl rfl 0 rfl ?_
  obtain ⟨v4, e4, H⟩ := bs H
  refine j_getR (pc' := 132) dX12_gather_129 rfl fl_X12_58 e4 (fun r4 => ?_)
  refine j_iconst (pc' := 133) dX12_gather_132 rfl ?_
  obtain ⟨u5, e5, H⟩ := bs H
  obtain ⟨p6, e6, H⟩ := bs H
  refine j_cVl (y := yX12_costOf) (dY := 4) (vs := [vr v4, vi 3]) (st := []) (q := x0) (pc' := 136) dX12_gather_133 rfl ymX12_costOf yvX12_costOf ml_X12_163 (by decide) rfl (Nat.le_of_ble_eq_true rfl) (Nat.le_of_ble_eq_true rfl) e5 (tX12_costOf x0 v4 3 p3.2 ⟨by decide, by decide⟩ e6) (fun r6 z6 => ?_)
  obtain rfl := Option.some.inj H
  exact j_lret dX12_gather_136 r6 ⟨rfl, rfl⟩
noncomputable def fX12_gather_112 (k27 : Nat → Nat → Int → Int → Hp → Option (Int × Hp)) (x0 : Nat) (x1 : Nat) (x2 : Int) (x3 : Int) (h : Hp) : Option (Int × Hp) :=
  (c32 (x3 + 1)).bind fun _ => k27 x0 x1 x2 (x3 + 1) h
theorem tX12_gather_112 {L : Nat} {xs : Nat → Int32} {l : Launch} {res : Int × Hp} (k27 : Nat → Nat → Int → Int → Hp → Option (Int × Hp)) (hk27 : ∀ (x0 : Nat) (x1 : Nat) (x2 : Int) (x3 : Int) (h : Hp), R32 x2 → R32 x3 → k27 x0 x1 x2 x3 h = some res → J L xs l RX12 cX12_gather 6 false 5 (QL res) 0 0 27 [(0, vr x0), (1, vr x1), (2, vi x2), (3, vi x3)] [] h) (x0 : Nat) (x1 : Nat) (x2 : Int) (x3 : Int) (h : Hp) (rx2 : R32 x2) (rx3 : R32 x3) (H : fX12_gather_112 k27 x0 x1 x2 x3 h = some res) : J L xs l RX12 cX12_gather 6 false 5 (QL res) 0 0 112 [(0, vr x0), (1, vr x1), (2, vi x2), (3, vi x3)] [] h := by
  unfold fX12_gather_112 at H
  obtain ⟨u1, e1, H⟩ := bs H
  have r1 := c32_R e1
  refine j_iinc (k0 := 3) (lv' := [(0, vr x0), (1, vr x1), (2, vi x2), (3, vi (x3 + 1))]) (pc' := 115) dX12_gather_112 rfl rfl (by decide) [1, 2, 3, 0] rfl ?_
  refine j_goto (tgt := 27) dX12_gather_115 (by decide) ?_
  exact hk27 x0 x1 x2 (x3 + 1) h rx2 r1 H
noncomputable def fX12_gather_109 (k27 : Nat → Nat → Int → Int → Hp → Option (Int × Hp)) (x0 : Nat) (x1 : Nat) (x2 : Int) (x3 : Int) (h : Hp) : Option (Int × Hp) :=
  (c32 (x2 + 1)).bind fun _ => fX12_gather_112 k27 x0 x1 (x2 + 1) x3 h
theorem tX12_gather_109 {L : Nat} {xs : Nat → Int32} {l : Launch} {res : Int × Hp} (k27 : Nat → Nat → Int → Int → Hp → Option (Int × Hp)) (hk27 : ∀ (x0 : Nat) (x1 : Nat) (x2 : Int) (x3 : Int) (h : Hp), R32 x2 → R32 x3 → k27 x0 x1 x2 x3 h = some res → J L xs l RX12 cX12_gather 6 false 5 (QL res) 0 0 27 [(0, vr x0), (1, vr x1), (2, vi x2), (3, vi x3)] [] h) (x0 : Nat) (x1 : Nat) (x2 : Int) (x3 : Int) (h : Hp) (rx2 : R32 x2) (rx3 : R32 x3) (H : fX12_gather_109 k27 x0 x1 x2 x3 h = some res) : J L xs l RX12 cX12_gather 6 false 5 (QL res) 0 0 109 [(0, vr x0), (1, vr x1), (2, vi x2), (3, vi x3)] [] h := by
  unfold fX12_gather_109 at H
  obtain ⟨u1, e1, H⟩ := bs H
  have r1 := c32_R e1
  refine j_iinc (k0 := 2) (lv' := [(0, vr x0), (1, vr x1), (2, vi (x2 + 1)), (3, vi x3)]) (pc' := 112) dX12_gather_109 rfl rfl (by decide) [1, 2, 0, 3] rfl ?_
  exact tX12_gather_112 _ hk27 x0 x1 (x2 + 1) x3 h r1 rx3 H
noncomputable def fX12_gather_103 (k27 : Nat → Nat → Int → Int → Hp → Option (Int × Hp)) (k57 : Nat → Nat → Int → Int → Int → Int → Hp → Option (Int × Hp)) (x0 : Nat) (x1 : Nat) (x2 : Int) (x3 : Int) (x4 : Int) (x5 : Int) (h : Hp) : Option (Int × Hp) :=
  (c32 (x5 + 1)).bind fun _ => k57 x0 x1 x2 x3 x4 (x5 + 1) h
theorem tX12_gather_103 {L : Nat} {xs : Nat → Int32} {l : Launch} {res : Int × Hp} (k27 : Nat → Nat → Int → Int → Hp → Option (Int × Hp)) (k57 : Nat → Nat → Int → Int → Int → Int → Hp → Option (Int × Hp)) (hk27 : ∀ (x0 : Nat) (x1 : Nat) (x2 : Int) (x3 : Int) (h : Hp), R32 x2 → R32 x3 → k27 x0 x1 x2 x3 h = some res → J L xs l RX12 cX12_gather 6 false 5 (QL res) 0 0 27 [(0, vr x0), (1, vr x1), (2, vi x2), (3, vi x3)] [] h) (hk57 : ∀ (x0 : Nat) (x1 : Nat) (x2 : Int) (x3 : Int) (x4 : Int) (x5 : Int) (h : Hp), R32 x2 → R32 x3 → R32 x4 → R32 x5 → k57 x0 x1 x2 x3 x4 x5 h = some res → J L xs l RX12 cX12_gather 6 false 5 (QL res) 0 0 57 [(0, vr x0), (1, vr x1), (2, vi x2), (3, vi x3), (4, vi x4), (5, vi x5)] [] h) (x0 : Nat) (x1 : Nat) (x2 : Int) (x3 : Int) (x4 : Int) (x5 : Int) (h : Hp) (rx2 : R32 x2) (rx3 : R32 x3) (rx4 : R32 x4) (rx5 : R32 x5) (H : fX12_gather_103 k27 k57 x0 x1 x2 x3 x4 x5 h = some res) : J L xs l RX12 cX12_gather 6 false 5 (QL res) 0 0 103 [(0, vr x0), (1, vr x1), (2, vi x2), (3, vi x3), (4, vi x4), (5, vi x5)] [] h := by
  unfold fX12_gather_103 at H
  obtain ⟨u1, e1, H⟩ := bs H
  have r1 := c32_R e1
  refine j_iinc (k0 := 5) (lv' := [(0, vr x0), (1, vr x1), (2, vi x2), (3, vi x3), (4, vi x4), (5, vi (x5 + 1))]) (pc' := 106) dX12_gather_103 rfl rfl (by decide) [1, 2, 3, 4, 5, 0] rfl ?_
  refine j_goto (tgt := 57) dX12_gather_106 (by decide) ?_
  exact hk57 x0 x1 x2 x3 x4 (x5 + 1) h rx2 rx3 rx4 r1 H
noncomputable def fX12_gather_95 (k27 : Nat → Nat → Int → Int → Hp → Option (Int × Hp)) (k57 : Nat → Nat → Int → Int → Int → Int → Hp → Option (Int × Hp)) (x0 : Nat) (x1 : Nat) (x2 : Int) (x3 : Int) (x4 : Int) (x5 : Int) (h : Hp) : Option (Int × Hp) :=
  (getR h 11 x0 20).bind fun v1 => (ast h 0 v1 x5 x2).bind fun h2 => fX12_gather_103 k27 k57 x0 x1 x2 x3 x4 x5 h2
theorem tX12_gather_95 {L : Nat} {xs : Nat → Int32} {l : Launch} {res : Int × Hp} (k27 : Nat → Nat → Int → Int → Hp → Option (Int × Hp)) (k57 : Nat → Nat → Int → Int → Int → Int → Hp → Option (Int × Hp)) (hk27 : ∀ (x0 : Nat) (x1 : Nat) (x2 : Int) (x3 : Int) (h : Hp), R32 x2 → R32 x3 → k27 x0 x1 x2 x3 h = some res → J L xs l RX12 cX12_gather 6 false 5 (QL res) 0 0 27 [(0, vr x0), (1, vr x1), (2, vi x2), (3, vi x3)] [] h) (hk57 : ∀ (x0 : Nat) (x1 : Nat) (x2 : Int) (x3 : Int) (x4 : Int) (x5 : Int) (h : Hp), R32 x2 → R32 x3 → R32 x4 → R32 x5 → k57 x0 x1 x2 x3 x4 x5 h = some res → J L xs l RX12 cX12_gather 6 false 5 (QL res) 0 0 57 [(0, vr x0), (1, vr x1), (2, vi x2), (3, vi x3), (4, vi x4), (5, vi x5)] [] h) (x0 : Nat) (x1 : Nat) (x2 : Int) (x3 : Int) (x4 : Int) (x5 : Int) (h : Hp) (rx2 : R32 x2) (rx3 : R32 x3) (rx4 : R32 x4) (rx5 : R32 x5) (H : fX12_gather_95 k27 k57 x0 x1 x2 x3 x4 x5 h = some res) : J L xs l RX12 cX12_gather 6 false 5 (QL res) 0 0 95 [(0, vr x0), (1, vr x1), (2, vi x2), (3, vi x3), (4, vi x4), (5, vi x5)] [] h := by
  unfold fX12_gather_95 at H
  refine j_aload_n (i := 0) (pc' := 96) dX12_gather_95 rfl rfl 0 rfl ?_
  obtain ⟨v1, e1, H⟩ := bs H
  refine j_getR (pc' := 99) dX12_gather_96 rfl fl_X12_58 e1 (fun r1 => ?_)
  refine j_iload (pc' := 101) dX12_gather_99 rfl 5 rfl ?_
  refine j_iload_n (i := 2) (pc' := 102) dX12_gather_101 rfl rfl 2 rfl ?_
  obtain ⟨h2, e2, H⟩ := bs H
  refine j_iast (pc' := 103) dX12_gather_102 rfl rx2 e2 ?_
  exact tX12_gather_103 _ _ hk27 hk57 x0 x1 x2 x3 x4 x5 h2 rx2 rx3 rx4 rx5 H
noncomputable def fX12_gather_57 (k27 : Nat → Nat → Int → Int → Hp → Option (Int × Hp)) : Nat → Nat → Nat → Int → Int → Int → Int → Hp → Option (Int × Hp)
  | 0, _, _, _, _, _, _, _ => none
  | n + 1, x0, x1, x2, x3, x4, x5, h => (cob h 11 x0).bind fun _ => (fX12_n x0 h).bind fun p2 => if p2.1 ≤ x5 then (fX12_gather_109 k27 x0 x1 x2 x3 p2.2) else ((getR p2.2 11 x0 20).bind fun v4 => (ald p2.2 0 v4 x5).bind fun v5 => if v5 = (-1) then (if x5 = x4 then (fX12_gather_95 k27 (fX12_gather_57 k27 n) x0 x1 x2 x3 x4 x5 p2.2) else ((cob p2.2 11 x0).bind fun _ => (fX12_like x0 x4 x5 p2.2).bind fun p9 => if p9.1 = 0 then (fX12_gather_103 k27 (fX12_gather_57 k27 n) x0 x1 x2 x3 x4 x5 p9.2) else (fX12_gather_95 k27 (fX12_gather_57 k27 n) x0 x1 x2 x3 x4 x5 p9.2))) else (fX12_gather_103 k27 (fX12_gather_57 k27 n) x0 x1 x2 x3 x4 x5 p2.2))
theorem tX12_gather_57 {L : Nat} {xs : Nat → Int32} {l : Launch} {res : Int × Hp} (k27 : Nat → Nat → Int → Int → Hp → Option (Int × Hp)) (hk27 : ∀ (x0 : Nat) (x1 : Nat) (x2 : Int) (x3 : Int) (h : Hp), R32 x2 → R32 x3 → k27 x0 x1 x2 x3 h = some res → J L xs l RX12 cX12_gather 6 false 5 (QL res) 0 0 27 [(0, vr x0), (1, vr x1), (2, vi x2), (3, vi x3)] [] h) : ∀ (n : Nat) (x0 : Nat) (x1 : Nat) (x2 : Int) (x3 : Int) (x4 : Int) (x5 : Int) (h : Hp), R32 x2 → R32 x3 → R32 x4 → R32 x5 → fX12_gather_57 k27 n x0 x1 x2 x3 x4 x5 h = some res → J L xs l RX12 cX12_gather 6 false 5 (QL res) 0 0 57 [(0, vr x0), (1, vr x1), (2, vi x2), (3, vi x3), (4, vi x4), (5, vi x5)] [] h := by
  intro n
  induction n with
  | zero => intro x0 x1 x2 x3 x4 x5 h rx2 rx3 rx4 rx5 H; cases H
  | succ n ih =>
    intro x0 x1 x2 x3 x4 x5 h rx2 rx3 rx4 rx5 H
    rw [fX12_gather_57] at H
    refine j_iload (pc' := 59) dX12_gather_57 rfl 5 rfl ?_
    refine j_aload_n (i := 0) (pc' := 60) dX12_gather_59 rfl rfl 0 rfl ?_
    obtain ⟨u1, e1, H⟩ := bs H
    obtain ⟨p2, e2, H⟩ := bs H
    refine j_cVi (y := yX12_n) (dY := 1) (vs := []) (st := [vi x5]) (q := x0) (pc' := 63) dX12_gather_60 rfl ymX12_n yvX12_n ml_X12_90 (by decide) rfl (Nat.le_of_ble_eq_true rfl) (Nat.le_of_ble_eq_true rfl) e1 (tX12_n x0 h e2) (fun r2 z2 => ?_)
    refine j_icmp_ge (tgt := 109) (pc' := 66) dX12_gather_63 (by decide) rfl rx5 r2 (fun c3 => ?_) (fun c3 => ?_)
    · rw [if_pos c3] at H
      refine j_sub (lv' := [(0, vr x0), (1, vr x1), (2, vi x2), (3, vi x3)]) [0, 1, 2, 3] rfl ?_
      exact tX12_gather_109 _ hk27 x0 x1 x2 x3 p2.2 rx2 rx3 H
    · rw [if_neg c3] at H
      refine j_aload_n (i := 0) (pc' := 67) dX12_gather_66 rfl rfl 0 rfl ?_
      obtain ⟨v4, e4, H⟩ := bs H
      refine j_getR (pc' := 70) dX12_gather_67 rfl fl_X12_58 e4 (fun r4 => ?_)
      refine j_iload (pc' := 72) dX12_gather_70 rfl 5 rfl ?_
      obtain ⟨v5, e5, H⟩ := bs H
      refine j_iald (pc' := 73) dX12_gather_72 rfl e5 (fun r5 => ?_)
      refine j_iconst (pc' := 74) dX12_gather_73 rfl ?_
      refine j_icmp_ne (tgt := 103) (pc' := 77) dX12_gather_74 (by decide) rfl r5 ⟨by decide, by decide⟩ (fun c6 => ?_) (fun c6 => ?_)
      · rw [if_neg c6] at H
        exact tX12_gather_103 _ _ hk27 ih x0 x1 x2 x3 x4 x5 p2.2 rx2 rx3 rx4 rx5 H
      · rw [if_pos c6] at H
        refine j_iload (pc' := 79) dX12_gather_77 rfl 5 rfl ?_
        refine j_iload (pc' := 81) dX12_gather_79 rfl 4 rfl ?_
        refine j_icmp_eq (tgt := 95) (pc' := 84) dX12_gather_81 (by decide) rfl rx5 rx4 (fun c7 => ?_) (fun c7 => ?_)
        · rw [if_pos c7] at H
          exact tX12_gather_95 _ _ hk27 ih x0 x1 x2 x3 x4 x5 p2.2 rx2 rx3 rx4 rx5 H
        · rw [if_neg c7] at H
          refine j_aload_n (i := 0) (pc' := 85) dX12_gather_84 rfl rfl 0 rfl ?_
          refine j_iload (pc' := 87) dX12_gather_85 rfl 4 rfl ?_
          refine j_iload (pc' := 89) dX12_gather_87 rfl 5 rfl ?_
          obtain ⟨u8, e8, H⟩ := bs H
          obtain ⟨p9, e9, H⟩ := bs H
          refine j_cVb (y := yX12_like) (dY := 1) (vs := [vi x4, vi x5]) (st := []) (q := x0) (pc' := 92) dX12_gather_89 rfl ymX12_like yvX12_like ml_X12_189 (by decide) rfl (Nat.le_of_ble_eq_true rfl) (Nat.le_of_ble_eq_true rfl) e8 (tX12_like x0 x4 x5 p2.2 rx4 rx5 e9) (fun r9 b9 z9 => ?_)
          refine j_if_eq (tgt := 103) (pc' := 95) dX12_gather_92 (by decide) rfl r9 (fun c10 => ?_) (fun c10 => ?_)
          · rw [if_pos c10] at H
            exact tX12_gather_103 _ _ hk27 ih x0 x1 x2 x3 x4 x5 p9.2 rx2 rx3 rx4 rx5 H
          · rw [if_neg c10] at H
            exact tX12_gather_95 _ _ hk27 ih x0 x1 x2 x3 x4 x5 p9.2 rx2 rx3 rx4 rx5 H
noncomputable def fX12_gather_27 : Nat → Nat → Nat → Int → Int → Hp → Option (Int × Hp)
  | 0, _, _, _, _, _ => none
  | n + 1, x0, x1, x2, x3, h => (cob h 11 x0).bind fun _ => (fX12_n x0 h).bind fun p2 => if p2.1 ≤ x3 then (fX12_gather_118 x0 p2.2) else ((ald p2.2 0 x1 x3).bind fun v4 => (getR p2.2 11 x0 20).bind fun v5 => (ald p2.2 0 v5 v4).bind fun v6 => if v6 = (-1) then (fX12_gather_57 (fX12_gather_27 n) FU x0 x1 x2 x3 v4 0 p2.2) else (fX12_gather_112 (fX12_gather_27 n) x0 x1 x2 x3 p2.2))
theorem tX12_gather_27 {L : Nat} {xs : Nat → Int32} {l : Launch} {res : Int × Hp} : ∀ (n : Nat) (x0 : Nat) (x1 : Nat) (x2 : Int) (x3 : Int) (h : Hp), R32 x2 → R32 x3 → fX12_gather_27 n x0 x1 x2 x3 h = some res → J L xs l RX12 cX12_gather 6 false 5 (QL res) 0 0 27 [(0, vr x0), (1, vr x1), (2, vi x2), (3, vi x3)] [] h := by
  intro n
  induction n with
  | zero => intro x0 x1 x2 x3 h rx2 rx3 H; cases H
  | succ n ih =>
    intro x0 x1 x2 x3 h rx2 rx3 H
    rw [fX12_gather_27] at H
    refine j_iload_n (i := 3) (pc' := 28) dX12_gather_27 rfl rfl 3 rfl ?_
    refine j_aload_n (i := 0) (pc' := 29) dX12_gather_28 rfl rfl 0 rfl ?_
    obtain ⟨u1, e1, H⟩ := bs H
    obtain ⟨p2, e2, H⟩ := bs H
    refine j_cVi (y := yX12_n) (dY := 1) (vs := []) (st := [vi x3]) (q := x0) (pc' := 32) dX12_gather_29 rfl ymX12_n yvX12_n ml_X12_90 (by decide) rfl (Nat.le_of_ble_eq_true rfl) (Nat.le_of_ble_eq_true rfl) e1 (tX12_n x0 h e2) (fun r2 z2 => ?_)
    refine j_icmp_ge (tgt := 118) (pc' := 35) dX12_gather_32 (by decide) rfl rx3 r2 (fun c3 => ?_) (fun c3 => ?_)
    · rw [if_pos c3] at H
      refine j_sub (lv' := [(0, vr x0)]) [0] rfl ?_
      exact tX12_gather_118   x0 p2.2  H
    · rw [if_neg c3] at H
      refine j_aload_n (i := 1) (pc' := 36) dX12_gather_35 rfl rfl 1 rfl ?_
      refine j_iload_n (i := 3) (pc' := 37) dX12_gather_36 rfl rfl 3 rfl ?_
      obtain ⟨v4, e4, H⟩ := bs H
      refine j_iald (pc' := 38) dX12_gather_37 rfl e4 (fun r4 => ?_)
      refine j_istore (lv' := [(0, vr x0), (1, vr x1), (2, vi x2), (3, vi x3), (4, vi v4)]) (pc' := 40) dX12_gather_38 rfl (by decide) [1, 2, 3, 4, 0] rfl ?_
      refine j_aload_n (i := 0) (pc' := 41) dX12_gather_40 rfl rfl 0 rfl ?_
      obtain ⟨v5, e5, H⟩ := bs H
      refine j_getR (pc' := 44) dX12_gather_41 rfl fl_X12_58 e5 (fun r5 => ?_)
      refine j_iload (pc' := 46) dX12_gather_44 rfl 4 rfl ?_
      obtain ⟨v6, e6, H⟩ := bs H
      refine j_iald (pc' := 47) dX12_gather_46 rfl e6 (fun r6 => ?_)
      refine j_iconst (pc' := 48) dX12_gather_47 rfl ?_
      refine j_icmp_eq (tgt := 54) (pc' := 51) dX12_gather_48 (by decide) rfl r6 ⟨by decide, by decide⟩ (fun c7 => ?_) (fun c7 => ?_)
      · rw [if_pos c7] at H
        refine j_iconst (pc' := 55) dX12_gather_54 rfl ?_
        refine j_istore (lv' := [(0, vr x0), (1, vr x1), (2, vi x2), (3, vi x3), (4, vi v4), (5, vi 0)]) (pc' := 57) dX12_gather_55 rfl (by decide) [1, 2, 3, 4, 5, 0] rfl ?_
        exact tX12_gather_57 _ ih FU x0 x1 x2 x3 v4 0 p2.2 rx2 rx3 r4 ⟨by decide, by decide⟩ H
      · rw [if_neg c7] at H
        refine j_goto (tgt := 112) dX12_gather_51 (by decide) ?_
        refine j_sub (lv' := [(0, vr x0), (1, vr x1), (2, vi x2), (3, vi x3)]) [0, 1, 2, 3] rfl ?_
        exact tX12_gather_112 _ ih x0 x1 x2 x3 p2.2 rx2 rx3 H
noncomputable def fX12_gather_23 (x0 : Nat) (x1 : Nat) (h : Hp) : Option (Int × Hp) :=
  fX12_gather_27 FU x0 x1 0 0 h
theorem tX12_gather_23 {L : Nat} {xs : Nat → Int32} {l : Launch} {res : Int × Hp} (x0 : Nat) (x1 : Nat) (h : Hp)  (H : fX12_gather_23 x0 x1 h = some res) : J L xs l RX12 cX12_gather 6 false 5 (QL res) 0 0 23 [(0, vr x0), (1, vr x1)] [] h := by
  unfold fX12_gather_23 at H
  refine j_iconst (pc' := 24) dX12_gather_23 rfl ?_
  refine j_istore_n (i := 2) (lv' := [(0, vr x0), (1, vr x1), (2, vi 0)]) (pc' := 25) dX12_gather_24 rfl rfl (by decide) [1, 2, 0] rfl ?_
  refine j_iconst (pc' := 26) dX12_gather_25 rfl ?_
  refine j_istore_n (i := 3) (lv' := [(0, vr x0), (1, vr x1), (2, vi 0), (3, vi 0)]) (pc' := 27) dX12_gather_26 rfl rfl (by decide) [1, 2, 3, 0] rfl ?_
  exact tX12_gather_27   FU x0 x1 0 0 h ⟨by decide, by decide⟩ ⟨by decide, by decide⟩ H
noncomputable def fX12_gather_2 : Nat → Nat → Nat → Int → Hp → Option (Int × Hp)
  | 0, _, _, _, _ => none
  | n + 1, x0, x1, x2, h => (cob h 11 x0).bind fun _ => (fX12_n x0 h).bind fun p2 => if p2.1 ≤ x2 then (fX12_gather_23 x0 x1 p2.2) else ((getR p2.2 11 x0 20).bind fun v4 => (ast p2.2 0 v4 x2 (-1)).bind fun h5 => (c32 (x2 + 1)).bind fun _ => fX12_gather_2 n x0 x1 (x2 + 1) h5)
theorem tX12_gather_2 {L : Nat} {xs : Nat → Int32} {l : Launch} {res : Int × Hp} : ∀ (n : Nat) (x0 : Nat) (x1 : Nat) (x2 : Int) (h : Hp), R32 x2 → fX12_gather_2 n x0 x1 x2 h = some res → J L xs l RX12 cX12_gather 6 false 5 (QL res) 0 0 2 [(0, vr x0), (1, vr x1), (2, vi x2)] [] h := by
  intro n
  induction n with
  | zero => intro x0 x1 x2 h rx2 H; cases H
  | succ n ih =>
    intro x0 x1 x2 h rx2 H
    rw [fX12_gather_2] at H
    refine j_iload_n (i := 2) (pc' := 3) dX12_gather_2 rfl rfl 2 rfl ?_
    refine j_aload_n (i := 0) (pc' := 4) dX12_gather_3 rfl rfl 0 rfl ?_
    obtain ⟨u1, e1, H⟩ := bs H
    obtain ⟨p2, e2, H⟩ := bs H
    refine j_cVi (y := yX12_n) (dY := 1) (vs := []) (st := [vi x2]) (q := x0) (pc' := 7) dX12_gather_4 rfl ymX12_n yvX12_n ml_X12_90 (by decide) rfl (Nat.le_of_ble_eq_true rfl) (Nat.le_of_ble_eq_true rfl) e1 (tX12_n x0 h e2) (fun r2 z2 => ?_)
    refine j_icmp_ge (tgt := 23) (pc' := 10) dX12_gather_7 (by decide) rfl rx2 r2 (fun c3 => ?_) (fun c3 => ?_)
    · rw [if_pos c3] at H
      refine j_sub (lv' := [(0, vr x0), (1, vr x1)]) [0, 1] rfl ?_
      exact tX12_gather_23   x0 x1 p2.2  H
    · rw [if_neg c3] at H
      refine j_aload_n (i := 0) (pc' := 11) dX12_gather_10 rfl rfl 0 rfl ?_
      obtain ⟨v4, e4, H⟩ := bs H
      refine j_getR (pc' := 14) dX12_gather_11 rfl fl_X12_58 e4 (fun r4 => ?_)
      refine j_iload_n (i := 2) (pc' := 15) dX12_gather_14 rfl rfl 2 rfl ?_
      refine j_iconst (pc' := 16) dX12_gather_15 rfl ?_
      obtain ⟨h5, e5, H⟩ := bs H
      refine j_iast (pc' := 17) dX12_gather_16 rfl ⟨by decide, by decide⟩ e5 ?_
      obtain ⟨u6, e6, H⟩ := bs H
      have r6 := c32_R e6
      refine j_iinc (k0 := 2) (lv' := [(0, vr x0), (1, vr x1), (2, vi (x2 + 1))]) (pc' := 20) dX12_gather_17 rfl rfl (by decide) [1, 2, 0] rfl ?_
      refine j_goto (tgt := 2) dX12_gather_20 (by decide) ?_
      exact ih x0 x1 (x2 + 1) h5 r6 H
noncomputable def fX12_gather (a0 : Nat) (a1 : Nat) (h : Hp) : Option (Int × Hp) :=
  fX12_gather_2 FU a0 a1 0 h
theorem tX12_gather {L : Nat} {xs : Nat → Int32} {l : Launch} {res : Int × Hp} (a0 : Nat) (a1 : Nat) (h : Hp)  (H : fX12_gather a0 a1 h = some res) : J L xs l RX12 cX12_gather 6 false 5 (QL res) 0 0 0 (alv 0 [vr a0, vr a1]) [] h := by
  unfold fX12_gather at H
  show J L xs l RX12 cX12_gather 6 false 5 (QL res) 0 0 0 [(0, vr a0), (1, vr a1)] [] h
  refine j_iconst (pc' := 1) dX12_gather_0 rfl ?_
  refine j_istore_n (i := 2) (lv' := [(0, vr a0), (1, vr a1), (2, vi 0)]) (pc' := 2) dX12_gather_1 rfl rfl (by decide) [1, 2, 0] rfl ?_
  exact tX12_gather_2   FU a0 a1 0 h ⟨by decide, by decide⟩ H
