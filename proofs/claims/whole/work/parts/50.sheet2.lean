/-! the sheet's entries: shifting up and down cuts as the narrow kinds do -/
theorem bm_def (x : Int) (m : Nat) : Int.bmod x m = if x % m < (m + 1) / 2 then x % m else x % m - m := rfl
theorem l2w_b (v : Int) : l2w v = v.bmod 4294967296 := by
  unfold l2w
  rw [Int64.toInt_toInt32, Int64.toInt_ofInt]
  show (v.bmod 18446744073709551616).bmod 4294967296 = v.bmod 4294967296
  rw [bm_def, bm_def v, bm_def v]; split <;> split <;> split <;> omega
theorem w8_b (v : Int) : w8 v = v.bmod 256 := by
  unfold w8
  rw [Int8.toInt_toInt32, Int32.toInt_toInt8, Int32.toInt_ofInt]
  show (v.bmod 4294967296).bmod 256 = v.bmod 256
  rw [bm_def, bm_def v, bm_def v]; split <;> split <;> split <;> omega
theorem w16_b (v : Int) : w16 v = v.bmod 65536 := by
  unfold w16
  rw [Int16.toInt_toInt32, Int32.toInt_toInt16, Int32.toInt_ofInt]
  show (v.bmod 4294967296).bmod 65536 = v.bmod 65536
  rw [bm_def, bm_def v, bm_def v]; split <;> split <;> split <;> omega
theorem lShl_b (v : Int) (c : Nat) (hc : (((Int32.ofInt (c : Int)).toInt64 &&& 63).toBitVec.smod 64).toNat = c) : lShl v c = ((v % 18446744073709551616) * 2 ^ c).bmod 18446744073709551616 := by
  unfold lShl
  show ((Int64.ofInt v <<< ((Int32.ofInt (c : Int)).toInt64 &&& 63)).toBitVec).toInt = _
  rw [Int64.toBitVec_shiftLeft, BitVec.shiftLeft_eq', hc, BitVec.toInt_shiftLeft, Int64.toBitVec_ofInt, BitVec.toNat_ofInt, Nat.shiftLeft_eq]
  have : ((v % ((2 ^ 64 : Nat) : Int)).toNat : Int) = v % 18446744073709551616 := by omega
  rw [Int.natCast_mul, this]
  show (v % 18446744073709551616 * ((2 ^ c : Nat) : Int)).bmod 18446744073709551616 = _
  rw [Int.natCast_pow]; rfl
theorem lShr_b (v : Int) (c : Nat) (hc : (((Int32.ofInt (c : Int)).toInt64 &&& 63).toBitVec.smod 64).toNat = c) : lShr v c = (v.bmod 18446744073709551616) / 2 ^ c := by
  unfold lShr
  show ((Int64.ofInt v >>> ((Int32.ofInt (c : Int)).toInt64 &&& 63)).toBitVec).toInt = _
  rw [Int64.toBitVec_shiftRight, BitVec.sshiftRight_eq', hc, BitVec.toInt_sshiftRight, Int64.toBitVec_ofInt, BitVec.toInt_ofInt, Int.shiftRight_eq_div_pow]
  show v.bmod 18446744073709551616 / ((2 ^ c : Nat) : Int) = _
  rw [Int.natCast_pow]; rfl
theorem bmm (v : Int) : (v.bmod 18446744073709551616).bmod 18446744073709551616 = v.bmod 18446744073709551616 := by
  rw [bm_def (v.bmod _), bm_def v]; split <;> split <;> omega
theorem nrw_ok {k v : Int} (h1 : 0 ≤ k) (h2 : k ≤ 3) (hv : -9223372036854775808 ≤ v ∧ v ≤ 9223372036854775807) : lShr (lShl v (64 - bShl 8 k)) (64 - bShl 8 k) = nrw k v := by
  have hk : k = 0 ∨ k = 1 ∨ k = 2 ∨ k = 3 := by omega
  rcases hk with rfl | rfl | rfl | rfl
  · have e : 64 - bShl 8 0 = ((56 : Nat) : Int) := by decide
    rw [e, lShl_b _ 56 (by decide), lShr_b _ 56 (by decide), bmm]
    simp only [nrw, if_pos]
    rw [w8_b, l2w_b, bm_def, bm_def (v.bmod _), bm_def v]; split <;> split <;> split <;> omega
  · have e : 64 - bShl 8 1 = ((48 : Nat) : Int) := by decide
    rw [e, lShl_b _ 48 (by decide), lShr_b _ 48 (by decide), bmm]
    simp only [nrw]
    rw [if_neg (by omega), if_pos trivial, w16_b, l2w_b, bm_def, bm_def (v.bmod _), bm_def v]; split <;> split <;> split <;> omega
  · have e : 64 - bShl 8 2 = ((32 : Nat) : Int) := by decide
    rw [e, lShl_b _ 32 (by decide), lShr_b _ 32 (by decide), bmm]
    simp only [nrw]
    rw [if_neg (by omega), if_neg (by omega), if_pos trivial, l2w_b, bm_def, bm_def v]; split <;> split <;> omega
  · have e : 64 - bShl 8 3 = ((0 : Nat) : Int) := by decide
    rw [e, lShl_b _ 0 (by decide), lShr_b _ 0 (by decide), bmm]
    simp only [nrw]
    rw [if_neg (by omega), if_neg (by omega), if_neg (by omega), bm_def]; split <;> omega
section
variable {h h' : Hp} {s : Scn} {hist : List Scn} {x : Aux} {flt : Int}
theorem CI.she {y : Int × Int × (Nat → Int)} (C : CI h s hist x flt) (F : Fr (shs 12) h h') (N : CShe h' y) : CI h' s hist (y, x.2) flt := by
  obtain ⟨c1, c2, ⟨A, nx, c3⟩, c4, c5, c6, c7, c8, c9⟩ := C
  have e : ∀ k, k ≠ 12 → k ≠ 13 → h'.2 k = h.2 k := fun k z1 z2 => F.2 k (by intro z; rcases z with z | z <;> omega)
  exact ⟨(e _ (by omega) (by omega)).trans c1, c2.ag (fun j hj => e j (by obtain ⟨z1, z2⟩ := hj; omega) (by obtain ⟨z1, z2⟩ := hj; omega)), ⟨A, nx, c3.ag F.1 (fun k hk => e k (by omega) (by omega))⟩, N, c5.ag (fun k hk => e k (by omega) (by omega)), c6.ag (fun k hk => e k (by omega) (by omega)), c7.ag (fun k hk => e k (by omega) (by omega)), c8.ag (fun k hk => e k (by omega) (by omega)), c9.ag (fun k hk => e k (by omega) (by omega))⟩
theorem FC.she (F : Fr (shs 12) h h') : FC h h' := fun k h1 h2 => F.2 k (by intro z; rcases z with z | z <;> omega)
theorem RI.she {k m m' : Int} {E E' : Nat → Int} {pa fp : Nat} {sm : Int} (R : RI h s hist x flt) (o : h.2 62 = some (MO pa fp x.1.1 sm x.2.1.1 (x.2.2.2.1 : Int) flt)) (F : Fr (fun j => j = 62 ∨ j = 69) h h') (o' : h'.2 62 = some (MO pa fp k m x.2.1.1 (x.2.2.2.1 : Int) flt)) (e : h'.2 69 = some (arr 1 8 E)) (q1 : k ≠ -1 → m = m') (q2 : k ≠ -1 → Eqn 8 E E') : RI h' s hist ((k, m', E'), x.2) flt := by
  obtain ⟨⟨pa', fp', sm', Z, P, W, X, K, N, a1, ⟨m0, m1, m2, m3, m4, m5⟩, a3, a4, a5⟩, ⟨E0, b1, b2⟩, ⟨O, T, H, d1, d2, d3, d4⟩, ⟨r1, r2, e1, e2, e3⟩, ⟨r, f1, f2⟩, ⟨q1', q2', q3, q4, q5, g1, g2, g3, g4, g5⟩⟩ := R
  have kk : ∀ j, j ≠ 62 → j ≠ 69 → h'.2 j = h.2 j := fun j z1 z2 => F.2 j (by omega)
  have eo : pa' = pa ∧ fp' = fp := by
    have a1' := o.symm.trans a1
    simp [MO] at a1'
    omega
  obtain ⟨rfl, rfl⟩ := eo
  exact ⟨⟨pa', fp', m, Z, P, W, X, K, N, o', ⟨(kk _ (by omega) (by omega)).trans m0, (kk _ (by omega) (by omega)).trans m1, (kk _ (by omega) (by omega)).trans m2, (kk _ (by omega) (by omega)).trans m3, (kk _ (by omega) (by omega)).trans m4, (kk _ (by omega) (by omega)).trans m5⟩, a3, a4, q1⟩, ⟨E, e, q2⟩, ⟨O, T, H, (kk _ (by omega) (by omega)).trans d1, (kk _ (by omega) (by omega)).trans d2, (kk _ (by omega) (by omega)).trans d3, d4⟩, ⟨r1, r2, (kk _ (by omega) (by omega)).trans e1, (kk _ (by omega) (by omega)).trans e2, e3⟩, ⟨r, (kk _ (by omega) (by omega)).trans f1, f2⟩, ⟨q1', q2', q3, q4, q5, (kk _ (by omega) (by omega)).trans g1, (kk _ (by omega) (by omega)).trans g2, (kk _ (by omega) (by omega)).trans g3, (kk _ (by omega) (by omega)).trans g4, (kk _ (by omega) (by omega)).trans g5⟩⟩
end
