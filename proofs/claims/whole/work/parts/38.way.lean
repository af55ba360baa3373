def Both (h : Hp) : Prop := ∃ s hist x flt, Good s hist x ∧ CI h s hist x flt ∧ RI h s hist x flt
theorem both_of {h h1 h2 : Hp} {s s' : Scn} {hist hist' : List Scn} {x x' : Aux} {flt flt' : Int} (G' : Good s' hist' x') (C1 : CI h1 s' hist' x' flt') (F2 : FM h1 h2) (R2 : RI h2 s' hist' x' flt') : Both h2 := ⟨s', hist', x', flt', G', C1.ag F2.1 F2.2, R2⟩
section
variable {h h' : Hp} {s s' : Scn} {hist : List Scn} {x : Aux} {flt : Int}
theorem CI.scene (C : CI h s hist x flt) (h1 : h'.1 = h.1) (hk : ∀ k, ¬ scs 2 k → h'.2 k = h.2 k) (N : CSc h' 2 s') : CI h' s' hist x flt := by
  obtain ⟨c1, c2, ⟨A, nx, c3⟩, c4, c5, c6, c7, c8, c9⟩ := C
  have e : ∀ k, (k < 2 ∨ 9 < k) → h'.2 k = h.2 k := fun k z => hk k (by intro y; obtain ⟨y1, y2⟩ := y; omega)
  exact ⟨(e _ (by omega)).trans c1, N, ⟨A, nx, c3.ag h1 (fun k hk => e k (by omega))⟩, c4.ag (fun k hk => e k (by omega)), c5.ag (fun k hk => e k (by omega)), c6.ag (fun k hk => e k (by omega)), c7.ag (fun k hk => e k (by omega)), c8.ag (fun k hk => e k (by omega)), c9.ag (fun k hk => e k (by omega))⟩
theorem CI.cr1 (C : CI h s hist x flt) : crf h 1 = some () := by
  obtain ⟨A, nx, c3⟩ := C.2.2.1
  exact cr (by have := c3.1; omega)
theorem FC.scene (hk : ∀ k, ¬ scs 2 k → h'.2 k = h.2 k) : FC h h' := fun k h1 h2 => hk k (by intro y; obtain ⟨y1, y2⟩ := y; omega)
/-- rows of the reference's scenes have changed in slot 0 alone -/
theorem RI.scene {Z P W X K N : Nat → Int} (R : RI h s hist x flt) (F : Fr (fun k => 63 ≤ k ∧ k ≤ 68) h h') (M : M6 h' Z P W X K N) (S : RSl Z P W X K N 0 s')
    (T : ∀ {Z0 P0 W0 X0 K0 N0 : Nat → Int}, M6 h Z0 P0 W0 X0 K0 N0 → ∀ (t : Nat) (y : Scn), 1 ≤ t → t ≤ 20 → RSl Z0 P0 W0 X0 K0 N0 t y → RSl Z P W X K N t y) : RI h' s' hist x flt := by
  obtain ⟨⟨pa, fp, sm, Z0, P0, W0, X0, K0, N0, a1, a2, a3, ⟨a4, a5, a6, a7⟩, a8⟩, ⟨E, b1, b2⟩, ⟨O, T0, H, d1, d2, d3, d4⟩, ⟨r1, r2, e1, e2, e3⟩, ⟨r, f1, f2⟩, ⟨q1, q2, q3, q4, q5, g1, g2, g3, g4, g5⟩⟩ := R
  have k : ∀ j, j = 62 ∨ 69 ≤ j → h'.2 j = h.2 j := fun j hj => F.2 j (by omega)
  exact ⟨⟨pa, fp, sm, Z, P, W, X, K, N, (k _ (by omega)).trans a1, M, S, ⟨a4, a5, a6, fun i y hy => T a2 _ y (by omega) (by omega) (a7 i y hy)⟩, a8⟩, ⟨E, (k _ (by omega)).trans b1, b2⟩, ⟨O, T0, H, (k _ (by omega)).trans d1, (k _ (by omega)).trans d2, (k _ (by omega)).trans d3, d4⟩, ⟨r1, r2, (k _ (by omega)).trans e1, (k _ (by omega)).trans e2, e3⟩, ⟨r, (k _ (by omega)).trans f1, f2⟩, ⟨q1, q2, q3, q4, q5, (k _ (by omega)).trans g1, (k _ (by omega)).trans g2, (k _ (by omega)).trans g3, (k _ (by omega)).trans g4, (k _ (by omega)).trans g5⟩⟩
theorem take20_good {s : Scn} {hist : List Scn} (h1 : GSc s) (h2 : ∀ y ∈ hist, GSc y) : ∀ y ∈ (s :: hist).take 20, GSc y := by
  intro y hy
  have := List.mem_of_mem_take hy
  rcases List.mem_cons.mp this with rfl | z
  · exact h1
  · exact h2 y z
end
theorem both_fault {h : Hp} (B : Both h) : ∃ r h1 h2, fX11_fault 1 h = some (r, h1) ∧ fX12_fault 62 h1 = some (r, h2) ∧ Both h2 := by
  obtain ⟨s, hist, x, flt, G, C, R⟩ := B
  obtain ⟨pa, fp, sm, o⟩ := R.obj
  refine ⟨flt, h, h, ?_, ?_, ⟨s, hist, x, flt, G, C, R⟩⟩
  · unfold fX11_fault; rw [gI 11 C.1 rfl, ob]
  · unfold fX12_fault; rw [gI 19 o rfl, ob]
/-- the scene with one way changed -/
def setW (s : Scn) (a b : Nat) (v : Int) : Scn := (sn s, sP s, ups (ups (sW s) (12 * a + b) v) (12 * b + a) v, sX s, sK s, sf s)
theorem ups2_eq {F G : Nat → Int} {m i j : Nat} {v : Int} (h : Eqn m F G) : Eqn m (ups (ups F i v) j v) (ups (ups G i v) j v) := by
  intro k hk
  simp only [ups_at]
  split
  · rfl
  · split
    · rfl
    · exact h k hk
theorem setW_W (s : Scn) (a b : Nat) (v : Int) (k : Nat) : sW (setW s a b v) k = if k = 12 * b + a then v else if k = 12 * a + b then v else sW s k := rfl
theorem setW_good {s : Scn} (G : GSc s) {a b : Nat} {v : Int} (ha : a < 12) (hb : b < 12) (hab : a ≠ b) (hv : 0 ≤ v ∧ v ≤ 10000) : GSc (setW s a b v) := by
  obtain ⟨g1, g2, g3, g4, g5, g6, g7⟩ := G
  refine ⟨g1, g2, g3, fun i hi => ?_, fun c d hc hd => ?_, fun c hc => ?_, g7⟩
  · rw [setW_W]
    split
    · exact hv
    · split
      · exact hv
      · exact g4 i hi
  · rw [setW_W, setW_W]
    have := g5 c d hc hd
    by_cases e1 : 12 * c + d = 12 * b + a
    · have : c = b := by omega
      have : d = a := by omega
      rw [if_pos e1]; by_cases e2 : 12 * d + c = 12 * b + a
      · rw [if_pos e2]
      · rw [if_neg e2, if_pos (by omega)]
    · rw [if_neg e1]
      by_cases e3 : 12 * c + d = 12 * a + b
      · rw [if_pos e3, if_pos (by omega)]
      · rw [if_neg e3, if_neg (by omega), if_neg (by omega)]; exact this
  · rw [setW_W, if_neg (by omega), if_neg (by omega)]; exact g6 c hc
theorem c_way {h : Hp} {s : Scn} {hist : List Scn} {x : Aux} {flt : Int} (C : CI h s hist x flt) (G : Good s hist x) (a b v : Int) :
    (∃ i j : Nat, a = i ∧ b = j ∧ i < sn s ∧ j < sn s ∧ i ≠ j ∧ 0 ≤ v ∧ v ≤ 10000 ∧ ∃ h', fX11_way 1 a b v h = some (sW s (12 * i + j), h') ∧ CI h' (setW s i j v) ((s :: hist).take 20) x 0 ∧ FC h h') ∨
    (¬ ((0 ≤ a ∧ a < sn s) ∧ (0 ≤ b ∧ b < sn s) ∧ a ≠ b ∧ 0 ≤ v ∧ v ≤ 10000) ∧ ∃ h', fX11_way 1 a b v h = some (-1, h') ∧ CI h' s hist x 1 ∧ FC h h') := by
  have hn := G.1.2.1
  have bad : ∃ h', fX11_way_20 1 h = some (-1, h') ∧ CI h' s hist x 1 ∧ FC h h' := by
    unfold fX11_way_20
    rw [co C.1, ob, c_refuse C 1, ob]
    exact ⟨_, rfl, C.set 1, FC.put (by omega)⟩
  unfold fX11_way
  rw [co C.1, ob, c_isCouple C a b, ob]
  by_cases e : (0 ≤ a ∧ a < sn s) ∧ (0 ≤ b ∧ b < sn s) ∧ a ≠ b
  · rw [if_pos e, if_neg one0]
    by_cases v1 : v < 0
    · rw [if_pos v1]; exact Or.inr ⟨by omega, bad⟩
    · rw [if_neg v1]
      by_cases v2 : v ≤ 10000
      · rw [if_pos v2]
        left
        obtain ⟨i, rfl⟩ := Int.eq_ofNat_of_zero_le e.1.1
        obtain ⟨j, rfl⟩ := Int.eq_ofNat_of_zero_le e.2.1.1
        obtain ⟨h1, e1, C1, F1⟩ := c_change C hn
        obtain ⟨P, W, X, K, f, S, z1, z2, z3, z4, z5⟩ := C1.2.1
        refine ⟨i, j, rfl, rfl, by omega, by omega, by omega, by omega, by omega, ?_⟩
        rw [co C.1, ob, C.cr1, ob, e1, ob, gR 0 C1.1 rfl, ob, co S.1, ob, wayOf_ok S (by omega) (by omega), ob, gR 0 C1.1 rfl, ob, co S.1, ob, setWay_ok S (by omega) (by omega), ob]
        have kk : ∀ k, ¬ scs 2 k → (hput h1 4 (arr 0 144 (ups (ups W (12 * i + j) v) (12 * j + i) v))).2 k = h1.2 k := fun k hk => hput_ne (fun z => hk ⟨by omega, by omega⟩)
        refine ⟨hput h1 4 (arr 0 144 (ups (ups W (12 * i + j) v) (12 * j + i) v)), by rw [z2 (12 * i + j) (by omega)], C1.scene rfl kk ⟨P, _, X, K, f, ?_, z1, ups2_eq z2, z3, z4, z5⟩, F1.tr (FC.scene kk)⟩
        obtain ⟨s0, s1, s2, s3, s4, s5⟩ := S
        exact ⟨(hput_ne (by omega)).trans s0, (hput_ne (by omega)).trans s1, hput_eq, (hput_ne (by omega)).trans s3, (hput_ne (by omega)).trans s4, s5.ag (fun l h1 h2 => hput_ne (by omega))⟩
      · rw [if_neg v2]; exact Or.inr ⟨by omega, bad⟩
  · rw [if_neg e, if_pos rfl]; exact Or.inr ⟨fun z => e ⟨z.1, z.2.1, z.2.2.1⟩, bad⟩
