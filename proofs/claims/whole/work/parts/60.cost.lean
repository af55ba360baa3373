theorem c_isGoal (h : Hp) (a : Int) : fX11_isGoal a h = some (if 0 ≤ a ∧ a ≤ 3 then 1 else 0, h) := by
  unfold fX11_isGoal
  simp only [fX11_isGoal_13, fX11_isGoal_14]
  by_cases e : a < 0
  · rw [if_pos e, cbo_n (Or.inl rfl), ob, if_neg (by omega)]
  · rw [if_neg e]
    by_cases e2 : 3 < a
    · rw [if_pos e2, cbo_n (Or.inl rfl), ob, if_neg (by omega)]
    · rw [if_neg e2, cbo_n (Or.inr rfl), ob, if_pos (by omega)]
theorem r_isGoal (h : Hp) (a : Int) : fX12_isGoal a h = some (if 0 ≤ a ∧ a ≤ 3 then 1 else 0, h) := by
  unfold fX12_isGoal
  simp only [fX12_isGoal_13, fX12_isGoal_14]
  by_cases e : a < 0
  · rw [if_pos e, cbo_n (Or.inl rfl), ob, if_neg (by omega)]
  · rw [if_neg e]
    by_cases e2 : 4 ≤ a
    · rw [if_pos e2, cbo_n (Or.inl rfl), ob, if_neg (by omega)]
    · rw [if_neg e2, cbo_n (Or.inr rfl), ob, if_pos (by omega)]
section
variable {h : Hp} {s : Scn} {hist : List Scn} {x : Aux} {flt : Int}
theorem GSc.wok (G : GSc s) : Wok (sW s) := G.2.2.2.1
theorem GSc.xok (G : GSc s) : Xok (sX s) (sK s) := fun i hi => ⟨G.2.2.2.2.2.2.1 i hi, G.2.2.2.2.2.2.2.2.2.1 i hi⟩
theorem GSc.rgs (G : GSc s) : RGS (sn s) (sf s) := G.2.2.2.2.2.2.2.2.2.2.2.2
theorem Wok.eq {W W' : Nat → Int} (h : Wok W) (e : Eqn 144 W' W) : Wok W' := fun i hi => by rw [e i hi]; exact h i hi
theorem Xok.eq {X X' K K' : Nat → Int} (h : Xok X K) (e : Eqn 144 X' X) (e' : Eqn 144 K' K) : Xok X' K' := fun i hi => by rw [e i hi, e' i hi]; exact h i hi
theorem GSc.sym (G : GSc s) {U : Nat → Int} (e : Eqn 144 U (sW s)) : Sym (sn s) U := fun a b ha hb => by
  have := G.2.1
  rw [e _ (by omega), e _ (by omega)]; exact G.2.2.2.2.1 a b (by omega) (by omega)
/-- the class's own cost of its own parting, or of another one -/
theorem c_cost (C : CI h s hist x flt) (G : GSc s) (g : Int) {q2 : Nat} {f2 : Nat → Int} (P2 : isPt h q2 (sn s) (mx f2 (sn s)) f2) (hr : RGS (sn s) f2) : fX0_ofParting 2 g q2 h = some (cst (sn s) (sW s) (sX s) (sK s) g f2, h) := by
  obtain ⟨P, W, X, K, f, S, z1, z2, z3, z4, z5⟩ := C.2.1
  rw [ofParting_ok S G.1 G.2.1 (G.wok.eq z2) (G.xok.eq z3 z4) g P2 hr, cst_congr G.2.1 z2 z3 z4 (fun _ _ => rfl) g]
theorem CI.par (C : CI h s hist x flt) : ∃ f, isPt h 7 (sn s) (mx f (sn s)) f ∧ Eqn (sn s) f (sf s) := by
  obtain ⟨P, W, X, K, f, S, z1, z2, z3, z4, z5⟩ := C.2.1
  refine ⟨f, ?_, z5⟩
  rw [mx_congr z5]; exact S.2.2.2.2.2
theorem r_useWays (R : RI h s hist x flt) : ∃ h' U, fX12_useWays 62 h = some h' ∧ h'.2 79 = some (arr 0 144 U) ∧ Eqn 144 U (sW s) ∧ RI h' s hist x flt ∧ Fr (fun k => k = 79) h h' := by
  obtain ⟨r1, r2, r3, r4, r5, s1, s2, s3, s4, s5⟩ := R.scr
  unfold fX12_useWays
  refine lp (fun N i (s' : Hp) => fX12_useWays_2 N 62 i s') (fun i s' => ∃ F, s'.2 79 = some (arr 0 144 F) ∧ Eqn i F (sW s) ∧ RI s' s hist x flt ∧ Fr (fun k => k = 79) h s') 144 (fun o => ∃ h' U, o = some h' ∧ h'.2 79 = some (arr 0 144 U) ∧ Eqn 144 U (sW s) ∧ RI h' s hist x flt ∧ Fr (fun k => k = 79) h h') ?_ ?_ FU 0 h (Nat.zero_le _) (FU_lt (by omega)) ⟨r4, s4, fun j hj => by omega, R, Fr.rf⟩
  · intro N i s' hi ⟨F, a1, a2, a3, a5⟩
    obtain ⟨pa, fp, sm, o⟩ := a3.obj
    obtain ⟨W, m, q⟩ := a3.way
    simp only [fX12_useWays_2]
    rw [if_neg (by omega), gR 23 o rfl, ob, gR 2 o rfl, ob, ald_of i m rfl (by omega), ob, ast_of i a1 rfl (by omega), ob, c32_n (by omega) (by omega), ob]
    refine ⟨_, ⟨_, hput_eq, fun j hj => ?_, a3.pu9 _, a5.put rfl⟩, rfl⟩
    rw [ups_at]
    by_cases z : j = i
    · subst z; simp [q j hi]
    · rw [if_neg z]; exact a2 j (by omega)
  · intro N s' ⟨F, a1, a2, a3, a5⟩
    simp only [fX12_useWays_2, fX12_useWays_27]
    rw [if_pos (by omega)]
    exact ⟨s', F, rfl, a1, a2, a3, a5⟩
/-- the reference's cost of a row, by the ways that there are -/
theorem r_cost (R : RI h s hist x flt) (G : GSc s) {q m : Nat} {f U : Nat → Int} (e : h.2 q = some (arr 0 m f)) (hm : sn s ≤ m) (u : h.2 79 = some (arr 0 144 U)) (eU : Eqn 144 U (sW s)) (hr : RGS (sn s) f) {g : Int} (hg : 0 ≤ g ∧ g ≤ 3) : fX12_costOf 62 q g h = some (cst (sn s) (sW s) (sX s) (sK s) g f, h) := by
  rw [r_costOf R G e hm u (G.wok.eq eU) (G.sym eU) hr hg, cst_congr G.2.1 eU (fun _ _ => rfl) (fun _ _ => rfl) (fun _ _ => rfl) g]
end
theorem both_cost {h : Hp} (B : Both h) (a : Int) : ∃ r h1 h2, fX11_cost 1 a h = some (r, h1) ∧ fX12_cost 62 a h1 = some (r, h2) ∧ Both h2 := by
  obtain ⟨s, hist, x, flt, G, C, R⟩ := B
  have hn := G.1.2.1
  unfold fX11_cost fX12_cost
  rw [c_isGoal, ob]
  by_cases e : 0 ≤ a ∧ a ≤ 3
  · obtain ⟨h2, e2, R2, C1, F2, -⟩ := read2 G C R
    obtain ⟨f, P, ef⟩ := C1.par
    obtain ⟨h3, U, e3, u3, q3, R3, F3⟩ := r_useWays R2
    obtain ⟨N, m3, qN⟩ := R3.nam
    obtain ⟨pa, fp, sm, o⟩ := R3.obj
    refine ⟨cst (sn s) (sW s) (sX s) (sK s) a (sf s), hput h 1 (BO 0), h3, ?_, ?_, bo G C1 (F2.tr (FM.of F3 (fun k hk => by omega))) R3⟩
    · rw [if_pos e, if_neg one0, C.put1 0, ob, gR 0 C1.1 rfl, ob, ob, gR 5 C1.now rfl, ob, c_cost C1 G.1 a P (G.1.rgs.congr (fun i hi => (ef i hi).symm)), ob, cst_congr hn (fun _ _ => rfl) (fun _ _ => rfl) (fun _ _ => rfl) ef a]
    · rw [e2, ob, r_isGoal, ob, if_pos e, if_neg one0, R2.cb, ob, e3, ob, gR 5 o rfl, ob, R3.cb, ob, r_cost R3 G.1 m3 (by omega) u3 q3 (G.1.rgs.congr (fun i hi => (qN i hi).symm)) e, ob, cst_congr hn (fun _ _ => rfl) (fun _ _ => rfl) (fun _ _ => rfl) qN a]
  · obtain ⟨h2, h3, e2, R2, e3, B3⟩ := refuse2 G C R 1
    refine ⟨-1, hput h 1 (BO 1), h3, ?_, ?_, B3⟩
    · rw [if_neg e, if_pos rfl, co C.1, ob, c_refuse C 1, ob]
    · rw [e2, ob, r_isGoal, ob, if_neg e, if_pos rfl, R2.cb, ob, e3, ob]
theorem both_middle {h : Hp} (B : Both h) (a : Int) : ∃ r h1 h2, fX11_middle 1 a h = some (r, h1) ∧ fX12_middle 62 a h1 = some (r, h2) ∧ Both h2 := by
  obtain ⟨s, hist, x, flt, G, C, R⟩ := B
  have hn := G.1.2.1
  obtain ⟨f0, P0, ef0⟩ := C.par
  unfold fX11_middle fX12_middle
  simp only [fX11_middle_18, fX12_middle_21]
  by_cases e : 0 ≤ a ∧ a < mx (sf s) (sn s)
  · obtain ⟨h2, e2, R2, C1, F2, -⟩ := read2 G C R
    obtain ⟨f, Pt, ef⟩ := C1.par
    obtain ⟨h3, U, e3, u3, q3, R3, F3⟩ := r_useWays R2
    obtain ⟨N, m3, qN⟩ := R3.nam
    obtain ⟨pa, fp, sm, o⟩ := R3.obj
    obtain ⟨pa2, fp2, sm2, o2⟩ := R2.obj
    obtain ⟨P, W, X, K, f', S, z1, z2, z3, z4, z5⟩ := C1.2.1
    have hM := msk_lt (fun j => decide (f j = a)) (sn s)
    have hM2 : 2 ^ (sn s) ≤ 2 ^ 12 := Nat.pow_le_pow_right (by decide) hn
    refine ⟨hmd (sn s) (sW s) (pv (sf s) a) (sn s), hput h 1 (BO 0), h3, ?_, ?_, bo G C1 (F2.tr (FM.of F3 (fun k hk => by omega))) R3⟩
    · rw [if_neg (by omega), gR 0 C.1 rfl, ob, gR 5 C.now rfl, ob, gI 1 P0.1 rfl, ob, if_pos (by rw [mx_congr ef0]; exact e.2), C.put1 0, ob, gR 0 C1.1 rfl, ob, ob, gR 5 C1.now rfl, ob, co Pt.1, ob, membersOf_ok hn Pt, ob, middleOf_ok S hn (G.1.wok.eq z2) (by omega), ob]
      rw [hmd_congr hn z2 (p' := pv (sf s) a) (fun i hi => by rw [msk_bit]; simp [hi, pv, ef i hi]) (sn s) (Nat.le_refl _)]
    · rw [e2, ob, if_neg (by omega), gR 5 o2 rfl, ob, R2.cb, ob, r_heapsN R2 G.1, ob, if_pos e.2, R2.cb, ob, e3, ob, gR 5 o rfl, ob, R3.cb, ob, r_middleOf R3 hn m3 (by omega) u3 (G.1.wok.eq q3), ob]
      rw [hmd_congr hn q3 (p' := pv (sf s) a) (fun i hi => by simp [pv, qN i hi]) (sn s) (Nat.le_refl _)]
  · obtain ⟨h2, h3, e2, R2, e3, B3⟩ := refuse2 G C R 1
    obtain ⟨pa2, fp2, sm2, o2⟩ := R2.obj
    refine ⟨-1, hput h 1 (BO 1), h3, ?_, ?_, B3⟩
    · by_cases e1 : a < 0
      · rw [if_pos e1, co C.1, ob, c_refuse C 1, ob]
      · rw [if_neg e1, gR 0 C.1 rfl, ob, gR 5 C.now rfl, ob, gI 1 P0.1 rfl, ob, if_neg (by rw [mx_congr ef0]; omega), co C.1, ob, c_refuse C 1, ob]
    · rw [e2, ob]
      by_cases e1 : a < 0
      · rw [if_pos e1, R2.cb, ob, e3, ob]
      · rw [if_neg e1, gR 5 o2 rfl, ob, R2.cb, ob, r_heapsN R2 G.1, ob, if_neg (by show ¬ a < mx (sf s) (sn s); omega), R2.cb, ob, e3, ob]
