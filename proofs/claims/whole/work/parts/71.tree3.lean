def setT (x : Aux) (y : Int × (Nat → Int) × (Nat → Int) × (Nat → Int)) : Aux := (x.1, y, x.2.2)
section
variable {h h' : Hp} {s : Scn} {hist : List Scn} {x : Aux} {flt : Int}
theorem CI.sett {y : Int × (Nat → Int) × (Nat → Int) × (Nat → Int)} (C : CI h s hist x flt) (F : Fr (fun k => 14 ≤ k ∧ k ≤ 18) h h') (N : CTre h' y) : CI h' s hist (setT x y) flt := by
  obtain ⟨c1, c2, ⟨A, nx, c3⟩, c4, c5, c6, c7, c8, c9⟩ := C
  have e : ∀ k, k < 14 ∨ 18 < k → h'.2 k = h.2 k := fun k z => F.2 k (by omega)
  exact ⟨(e _ (by omega)).trans c1, c2.ag (fun j hj => e j (by obtain ⟨z1, z2⟩ := hj; omega)), ⟨A, nx, c3.ag F.1 (fun k hk => e k (by omega))⟩, c4.ag (fun k hk => e k (by omega)), N, c6.ag (fun k hk => e k (by omega)), c7.ag (fun k hk => e k (by omega)), c8.ag (fun k hk => e k (by omega)), c9.ag (fun k hk => e k (by omega))⟩
theorem RI.sett {y : Int × (Nat → Int) × (Nat → Int) × (Nat → Int)} {pa fp : Nat} {sm : Int} (R : RI h s hist x flt) (o : h.2 62 = some (MO pa fp x.1.1 sm x.2.1.1 (x.2.2.2.1 : Int) flt)) (F : Fr (fun j => j = 62 ∨ (70 ≤ j ∧ j ≤ 72)) h h') (o' : h'.2 62 = some (MO pa fp x.1.1 sm y.1 (x.2.2.2.1 : Int) flt)) (N : ∃ O T H, h'.2 70 = some (arr 0 12 O) ∧ h'.2 71 = some (arr 0 12 T) ∧ h'.2 72 = some (arr 0 12 H) ∧ Eqn y.1.toNat O y.2.1 ∧ Eqn y.1.toNat T y.2.2.1 ∧ Eqn y.1.toNat H y.2.2.2) : RI h' s hist (setT x y) flt := by
  obtain ⟨⟨pa', fp', sm', Z, P, W, X, K, N', a1, ⟨m0, m1, m2, m3, m4, m5⟩, a3, a4, a5⟩, ⟨E0, b1, b2⟩, -, ⟨r1, r2, e1, e2, e3⟩, ⟨r', f1, f2⟩, ⟨q1', q2', q3, q4, q5, g1, g2, g3, g4, g5⟩⟩ := R
  have kk : ∀ j, j ≠ 62 → (j < 70 ∨ 72 < j) → h'.2 j = h.2 j := fun j z1 z2 => F.2 j (by omega)
  have eo : pa' = pa ∧ fp' = fp ∧ sm' = sm := by
    have a1' := o.symm.trans a1
    simp [MO] at a1'
    omega
  obtain ⟨rfl, rfl, rfl⟩ := eo
  exact ⟨⟨pa', fp', sm', Z, P, W, X, K, N', o', ⟨(kk _ (by omega) (by omega)).trans m0, (kk _ (by omega) (by omega)).trans m1, (kk _ (by omega) (by omega)).trans m2, (kk _ (by omega) (by omega)).trans m3, (kk _ (by omega) (by omega)).trans m4, (kk _ (by omega) (by omega)).trans m5⟩, a3, a4, a5⟩, ⟨E0, (kk _ (by omega) (by omega)).trans b1, b2⟩, N, ⟨r1, r2, (kk _ (by omega) (by omega)).trans e1, (kk _ (by omega) (by omega)).trans e2, e3⟩, ⟨r', (kk _ (by omega) (by omega)).trans f1, f2⟩, ⟨q1', q2', q3, q4, q5, (kk _ (by omega) (by omega)).trans g1, (kk _ (by omega) (by omega)).trans g2, (kk _ (by omega) (by omega)).trans g3, (kk _ (by omega) (by omega)).trans g4, (kk _ (by omega) (by omega)).trans g5⟩⟩
theorem reps_0 {n : Nat} (hn : n ≤ 12) {O T : Nat → Int} : reps n (jn O T 0) (2 ^ n - 1) := by
  have h2 : 2 ^ n ≤ 2 ^ 12 := Nat.pow_le_pow_right (by decide) hn
  refine ⟨by omega, fun t ht => ?_⟩
  rw [Nat.testBit_two_pow_sub_one]
  simp [jn]
theorem BM_0 {kd n : Nat} {W B O T : Nat → Int} (hn : n ≤ 12) (e : Eqn 144 B W) : BM kd W n (jn O T 0) B := by
  intro p q hp hq hpq _ _
  refine ⟨⟨p, q, hp, hq, rfl, rfl, e _ (by omega)⟩, fun u w hu hw e1 e2 => ?_⟩
  have e1 : (u : Int) = p := e1
  have e2 : (w : Int) = q := e2
  have : u = p := by omega
  have : w = q := by omega
  subst u; subst w
  rw [e _ (by omega)]
  unfold nb; split <;> exact Int.le_refl _
/-- a tree's numbers keep to their bounds -/
theorem TR.bd {kd n : Nat} {W O T H : Nat → Int} {L : Nat} (hn : n ≤ 12) (hW : Wok W) (h : TR kd W n O T H L) : ∀ i, i < L → 0 ≤ O i ∧ O i < T i ∧ T i < n ∧ 0 ≤ H i ∧ H i ≤ 10000 := by
  intro i hi
  obtain ⟨p, q, a1, a2, ⟨r1, r2, r3, r4⟩, a3, -⟩ := h i hi
  have := a3.bd hn hW
  omega
theorem c_grow (C : CI h s hist x flt) (G : GSc s) {kd : Nat} (hkd : kd ≤ 1) : ∃ (h' : Hp) (O T H : Nat → Int), fX10_grow 14 2 kd h = some h' ∧ CI h' s hist (setT x (((sn s - 1 : Nat) : Int), O, T, H)) flt ∧ TR kd (sW s) (sn s) O T H (sn s - 1) ∧ FC h h' := by
  have hn := G.2.1
  have hn1 := G.1
  obtain ⟨sz, hl, O0, T0, H0, B0, u0, u1, u2, u3, u4, -⟩ := C.tre
  obtain ⟨P, W, X, K, f, ⟨s0, s1, s2, s3, s4, s5⟩, z1, z2, z3, z4, z5⟩ := C.2.1
  have h2n : bShl 1 ((sn s : Nat) : Int) - 1 = ((2 ^ (sn s) - 1 : Nat) : Int) := by
    rw [bShl_1 _ (by omega)]
    have : 1 ≤ 2 ^ (sn s) := Nat.one_le_two_pow
    omega
  have h2p : 2 ^ (sn s) ≤ 2 ^ 12 := Nat.pow_le_pow_right (by decide) hn
  have L1 : ∃ (g : Hp) (B : Nat → Int), fX10_grow 14 2 kd h = fX10_grow_50 FU 14 kd 0 g ∧ g.2 14 = some (TO ((sn s - 1 : Nat) : Int) (sn s) (2 ^ (sn s) - 1 : Nat)) ∧ g.2 15 = some (arr 0 12 O0) ∧ g.2 16 = some (arr 0 12 T0) ∧ g.2 17 = some (arr 0 12 H0) ∧ g.2 18 = some (arr 0 144 B) ∧ Eqn 144 B (sW s) ∧ Fr (fun k => 14 ≤ k ∧ k ≤ 18) h g := by
    unfold fX10_grow
    rw [gI 0 s0 rfl, ob, pV (fs' := [vi x.2.1.1, vi (sn s), vr 15, vr 16, vr 17, vr 18, vi hl]) 1 u0 (by simp) rfl, ob, gR 2 ((hput_ne (by omega)).trans s0) rfl, ob, gR 5 hput_eq rfl, ob, ob, aln_of ((hput_ne (by omega)).trans u4), ob,
      cpyI_of 144 ((hput_ne (by omega)).trans s2) ((hput_ne (by omega)).trans u4) rfl (by omega) (by omega) (by omega), ob, gI 1 ((hput_ne (by omega)).trans hput_eq) rfl, ob, h2n, c32_n (by omega) (by omega), ob,
      pV (fs' := [vi x.2.1.1, vi (sn s), vr 15, vr 16, vr 17, vr 18, vi ((2 ^ (sn s) - 1 : Nat) : Int)]) 6 ((hput_ne (by omega)).trans hput_eq) (by simp) rfl, ob, gI 1 hput_eq rfl, ob, show ((sn s : Nat) : Int) - 1 = ((sn s - 1 : Nat) : Int) from by omega, c32_n (by omega) (by omega), ob, pV (fs' := [vi ((sn s - 1 : Nat) : Int), vi (sn s), vr 15, vr 16, vr 17, vr 18, vi ((2 ^ (sn s) - 1 : Nat) : Int)]) 0 hput_eq (by simp) rfl, ob, hput_hput]
    exact ⟨_, _, rfl, hput_eq, (hput_ne (by omega)).trans ((hput_ne (by omega)).trans ((hput_ne (by omega)).trans u1)), (hput_ne (by omega)).trans ((hput_ne (by omega)).trans ((hput_ne (by omega)).trans u2)), (hput_ne (by omega)).trans ((hput_ne (by omega)).trans ((hput_ne (by omega)).trans u3)), (hput_ne (by omega)).trans hput_eq, fun i hi => by simp only [hi, if_pos]; exact z2 i hi, ((Fr.rf.put (by omega)).put (by omega)).put (by omega)⟩
  obtain ⟨g, B, e1, g0, g1, g2, g3, g4, qB, F1⟩ := L1
  rw [e1]
  have hS : Sym (sn s) (sW s) := G.sym (fun _ _ => rfl)
  refine lp (fun N L (g : Hp) => fX10_grow_50 N 14 kd L g) (fun L g => ∃ (M : Nat) (O T H B : Nat → Int), g.2 14 = some (TO ((sn s - 1 : Nat) : Int) (sn s) M) ∧ g.2 15 = some (arr 0 12 O) ∧ g.2 16 = some (arr 0 12 T) ∧ g.2 17 = some (arr 0 12 H) ∧ g.2 18 = some (arr 0 144 B) ∧ TR kd (sW s) (sn s) O T H L ∧ reps (sn s) (jn O T L) M ∧ BM kd (sW s) (sn s) (jn O T L) B ∧ Fr (fun k => 14 ≤ k ∧ k ≤ 18) h g) (sn s - 1) (fun r => ∃ (h' : Hp) (O T H : Nat → Int), r = some h' ∧ CI h' s hist (setT x (((sn s - 1 : Nat) : Int), O, T, H)) flt ∧ TR kd (sW s) (sn s) O T H (sn s - 1) ∧ FC h h') ?_ ?_ FU 0 g (Nat.zero_le _) (FU_lt (by omega)) ⟨2 ^ (sn s) - 1, O0, T0, H0, B, g0, g1, g2, g3, g4, fun i hi => by omega, reps_0 hn, BM_0 hn qB, F1⟩
  · intro N L g hL ⟨M, O, T, H, B, a0, a1, a2, a3, a4, a5, a6, a7, a8⟩
    obtain ⟨g1, O', T', H', p, q, e1, b1, b2, b3, b4, b5, b6, b7, b8⟩ := c_find (L := L) hn G.wok (by omega) a0 a1 a2 a3 a4 a6 a7 (a5.pair (by omega))
    have ej : ∀ t, jn O' T' L t = jn O T L t := fun t => jn_congr (m := L) (fun i hi => (b4 i (by omega)).1) (fun i hi => (b4 i (by omega)).2.1) t L (Nat.le_refl _)
    obtain ⟨g2, M2, B2, e2, d0, d4, d6, d7, d8⟩ := c_joinLow (L := L) (H := H') (nm := jn O T L) (nm' := jn O' T' (L + 1)) hn hS (by omega) hkd ((b8.2 14 (by omega)).trans a0) b1 b2 ((b8.2 18 (by omega)).trans a4) a6 a7 b5 b6 b7.1 (fun t ht => by rw [jn_s b5 b6 t, ej t])
    refine ⟨g2, ⟨M2, O', T', H', B2, d0, (d8.2 15 (by omega)).trans b1, (d8.2 16 (by omega)).trans b2, (d8.2 17 (by omega)).trans b3, d4, fun i hi => ?_, d6, d7, a8.tr ((b8.mono (fun k hk => by omega)).tr (d8.mono (fun k hk => by omega)))⟩, ?_⟩
    · by_cases z : i = L
      · subst z
        exact ⟨p, q, b5, b6, b7.congr (fun t _ => (ej t).symm)⟩
      · have := a5.congr (O' := O') (T' := T') (H' := H') (fun j hj => ((b4 j (by omega)).1).symm) (fun j hj => ((b4 j (by omega)).2.1).symm) (fun j hj => ((b4 j (by omega)).2.2).symm)
        exact this i (by omega)
    · show fX10_grow_50 (N + 1) 14 kd L g = _
      rw [fX10_grow_50, gI 1 a0 rfl, ob, c32_n (by omega) (by omega), ob, if_neg (by omega), co a0, ob, e1, ob, co ((b8.2 14 (by omega)).trans a0), ob, e2, ob, c32_n (by omega) (by omega), ob]; rfl
  · intro N g ⟨M, O, T, H, B, a0, a1, a2, a3, a4, a5, a6, a7, a8⟩
    show ∃ (h' : Hp) (O T H : Nat → Int), fX10_grow_50 (N + 1) 14 kd ((sn s - 1 : Nat) : Int) g = some h' ∧ _
    rw [fX10_grow_50, gI 1 a0 rfl, ob, c32_n (by omega) (by omega), ob, if_pos (by omega), fX10_grow_77]
    exact ⟨g, O, T, H, rfl, C.sett a8 ⟨sn s, M, O, T, H, B, a0, a1, a2, a3, a4, fun _ _ => rfl, fun _ _ => rfl, fun _ _ => rfl⟩, a5, FC.of a8 (fun k hk => by omega)⟩
end
