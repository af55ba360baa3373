section
variable {s : Scn} {hist : List Scn} {x : Aux} {flt : Int}
theorem COl_bd (G : GSc s) (l : List Nat) : -144000 ≤ COl (sn s) (sX s) (sK s) l ∧ COl (sn s) (sX s) (sK s) l ≤ 144000 := by
  have hn := G.2.1
  have h1 : ∀ a, a < sn s → -12000 ≤ sumN (sn s) (fun b => if a < b then (if (sK s (12 * a + b) = 1 ↔ (gl (sX s) (sK s) (fun q => l.getD q 0) (sn s)).1 a = (gl (sX s) (sK s) (fun q => l.getD q 0) (sn s)).1 b) then 0 else sX s (12 * a + b)) else 0) ∧ sumN (sn s) (fun b => if a < b then (if (sK s (12 * a + b) = 1 ↔ (gl (sX s) (sK s) (fun q => l.getD q 0) (sn s)).1 a = (gl (sX s) (sK s) (fun q => l.getD q 0) (sn s)).1 b) then 0 else sX s (12 * a + b)) else 0) ≤ 12000 := fun a ha => by
    have := sumN_bd (n := sn s) (F := fun b => if a < b then (if (sK s (12 * a + b) = 1 ↔ (gl (sX s) (sK s) (fun q => l.getD q 0) (sn s)).1 a = (gl (sX s) (sK s) (fun q => l.getD q 0) (sn s)).1 b) then 0 else sX s (12 * a + b)) else 0) (B := 1000) (fun b hb => by
      have := (G.xok (12 * a + b) (by omega)).1
      split <;> (try split) <;> omega)
    omega
  have h2 := sumN_bd (n := sn s) (B := 12000) h1
  unfold COl rqr
  omega
theorem bhd_at {n i j : Nat} {o : Nat → Nat} (ho : OrdN n o) (hi : i ≤ n) (hj : j < n) : bhd o i (o j) = decide (i ≤ j) := by
  unfold bhd
  rw [decide_eq_decide]
  rw [mem_pre]
  constructor
  · intro z
    rcases Nat.lt_or_ge j i with w | w
    · exact absurd ⟨j, w, rfl⟩ z
    · exact w
  · rintro w ⟨q, hq, e⟩
    have := ho.inj q j (by omega) hj e; omega
theorem bhd_sw {i j : Nat} {o : Nat → Nat} (hj : i ≤ j) (t : Nat) : bhd (osw o i j) (i + 1) t = rmv (bhd o i) (o j) t := by
  rw [rmv_at]
  unfold bhd
  rw [pre_sw hj]
  by_cases e : t = o j
  · rw [if_pos e]; simp [e]
  · rw [if_neg e]; simp [e]
set_option maxHeartbeats 2000000 in
theorem r_orders (G : GSc s) (h7 : sn s ≤ 7) : ∀ (d N i : Nat) (h : Hp) (A : Nat → Int) (o : Nat → Nat), i + d = sn s → d < N → RI h s hist x flt → h.2 80 = some (arr 0 12 A) → (∀ j, j < sn s → A j = o j) → OrdN (sn s) o → ∃ (h' : Hp) (A' : Nat → Int), fX12_orders N 62 i h = some (OS (sn s) d (fun l => COl (sn s) (sX s) (sK s) (pre o i ++ l)) (bhd o i), h') ∧ h'.2 80 = some (arr 0 12 A') ∧ (∀ j, j < sn s → A' j = o j) ∧ RI h' s hist x flt ∧ Fr (fun k => k = 76 ∨ k = 78 ∨ k = 80) h h' := by
  have hn := G.2.1
  intro d
  induction d with
  | zero =>
    intro N i h A o hi hN R e80 hA ho
    obtain ⟨N, rfl⟩ : ∃ k, N = k + 1 := ⟨N - 1, by omega⟩
    have hin : i = sn s := by omega
    subst hin
    exact r_orders0 R G N e80 hA ho
  | succ d ih =>
    intro N i h A o hi hN R e80 hA ho
    obtain ⟨N, rfl⟩ : ∃ k, N = k + 1 := ⟨N - 1, by omega⟩
    obtain ⟨T, hT⟩ : ∃ T : Nat → Int, T = fun t => OS (sn s) d (fun l => COl (sn s) (sX s) (sK s) (pre o i ++ (t :: l))) (rmv (bhd o i) t) := ⟨_, rfl⟩
    have hTb : ∀ t, -6000000000000 ≤ T t ∧ T t ≤ 6000000000000 := fun t => by
      rw [hT]
      have h1 := OS_bd hn (B := 144000) (by omega) d (φ := fun l => COl (sn s) (sX s) (sK s) (pre o i ++ (t :: l))) (rmv (bhd o i) t) (fun l => COl_bd G _)
      have h0 : 12 ^ d ≤ 12 ^ 7 := Nat.pow_le_pow_right (n := 12) (by decide) (by omega)
      have h2 : ((12 ^ d : Nat) : Int) ≤ ((12 ^ 7 : Nat) : Int) := Int.ofNat_le.mpr h0
      rw [Int.natCast_pow, Int.natCast_pow, show ((12 : Nat) : Int) = 12 from rfl] at h2
      have h3 : (12 : Int) ^ 7 = 35831808 := by decide
      simp only []
      omega
    have sum : OS (sn s) (d + 1) (fun l => COl (sn s) (sX s) (sK s) (pre o i ++ l)) (bhd o i) = sumN (sn s) (fun j => if i ≤ j then T (o j) else 0) := by
      simp only [OS]
      rw [← sumN_bij ho.lt ho.inj ho.sur]
      refine sumN_congr (fun j hj => ?_)
      rw [bhd_at ho (by omega) hj, hT]
      by_cases w : i ≤ j
      · simp [w]
      · simp [w]
    rw [sum]
    rw [fX12_orders, R.nb, if_neg (by show ¬ (i : Int) = sn s; omega)]
    simp only []
    refine lp (fun N' j (z : Int × Hp) => fX12_orders_22 (fX12_orders N) N' 62 i z.1 j z.2) (fun j z => i ≤ j ∧ ∃ A', z.2.2 80 = some (arr 0 12 A') ∧ (∀ q, q < sn s → A' q = o q) ∧ z.1 = sumN j (fun j => if i ≤ j then T (o j) else 0) ∧ RI z.2 s hist x flt ∧ Fr (fun k => k = 76 ∨ k = 78 ∨ k = 80) h z.2) (sn s) (fun r => ∃ (h' : Hp) (A' : Nat → Int), r = some (sumN (sn s) (fun j => if i ≤ j then T (o j) else 0), h') ∧ h'.2 80 = some (arr 0 12 A') ∧ (∀ j, j < sn s → A' j = o j) ∧ RI h' s hist x flt ∧ Fr (fun k => k = 76 ∨ k = 78 ∨ k = 80) h h') ?_ ?_ FU i (0, h) (by omega) (FU_lt (by omega)) ⟨Nat.le_refl _, A, e80, hA, (sumN_zero (fun j hj => by rw [if_neg (by omega)])).symm, R, Fr.rf⟩
    · intro N' j ⟨c, z⟩ hj ⟨hij, B, b1, b2, b3, b4, b5⟩
      have b1 : z.2 80 = some (arr 0 12 B) := b1
      have b3 : c = sumN j (fun j => if i ≤ j then T (o j) else 0) := b3
      have b4 : RI z s hist x flt := b4
      have b5 : Fr (fun k => k = 76 ∨ k = 78 ∨ k = 80) h z := b5
      have cb : -(j * 6000000000000 : Int) ≤ c ∧ c ≤ (j * 6000000000000 : Int) := by
        rw [b3]
        refine sumN_bd (fun q hq => ?_)
        have := hTb (o q)
        split <;> omega
      obtain ⟨pa, fp, sm, o1⟩ := b4.obj
      have R2 := (b4.pu (q := 80) (by omega) (ups (ups B j (B i)) i (B j)))
      have m2 : (hput z 80 (arr 0 12 (ups (ups B j (B i)) i (B j)))).2 80 = some (arr 0 12 (ups (ups B j (B i)) i (B j))) := hput_eq
      have hsw : ∀ q, q < sn s → ups (ups B j (B i)) i (B j) q = osw o i j q := fun q hq => by
        unfold osw
        rw [ups_at, ups_at, b2 j hj, b2 i (by omega), b2 q hq]
        by_cases w1 : q = i
        · rw [if_pos w1, if_pos w1]
        · rw [if_neg w1, if_neg w1]
          by_cases w2 : q = j
          · rw [if_pos w2, if_pos w2]
          · rw [if_neg w2, if_neg w2]
      obtain ⟨z3, D, e3, d1, d2, R3, F3⟩ := ih N (i + 1) _ _ (osw o i j) (by omega) (by omega) R2 m2 hsw (ho.sw (by omega) hj)
      have eT : OS (sn s) d (fun l => COl (sn s) (sX s) (sK s) (pre (osw o i j) (i + 1) ++ l)) (bhd (osw o i j) (i + 1)) = T (o j) := by
        rw [hT]
        refine OS_congr d (fun t _ => bhd_sw hij t) (fun l _ => ?_)
        rw [pre_sw hij]; simp
      rw [eT] at e3
      have tb := hTb (o j)
      obtain ⟨pa3, fp3, sm3, o3⟩ := R3.obj
      have o1' : ∀ Q, (hput z 80 (arr 0 12 Q)).2 62 = some (MO pa fp x.1.1 sm x.2.1.1 (x.2.2.2.1 : Int) flt) := fun Q => (hput_ne (by omega)).trans o1
      have o3' : ∀ Q, (hput z3 80 (arr 0 12 Q)).2 62 = some (MO pa3 fp3 x.1.1 sm3 x.2.1.1 (x.2.2.2.1 : Int) flt) := fun Q => (hput_ne (by omega)).trans o3
      show ∃ s' : Int × Hp, _ ∧ fX12_orders_22 (fX12_orders N) (N' + 1) 62 i c j z = _
      rw [fX12_orders_22, b4.nb, if_neg (by show ¬ (sn s : Int) ≤ j; omega)]
      simp only []
      rw [gR 24 o1 rfl, ob, ald_of j b1 rfl (by omega), ob, ob, ob, ald_of i b1 rfl (by omega), ob, ast_of j b1 rfl (by omega), ob, gR 24 (o1' _) rfl, ob, ast_of i hput_eq rfl (by omega), ob, hput_hput, c32_n (by omega) (by omega), ob, R2.cb, ob, show (i : Int) + 1 = ((i + 1 : Nat) : Int) from rfl, e3, ob]
      simp only []
      rw [c64_n (by omega) (by omega), ob, gR 24 o3 rfl, ob, ald_of j d1 rfl (by omega), ob, ob, ob, ald_of i d1 rfl (by omega), ob, ast_of j d1 rfl (by omega), ob, gR 24 (o3' _) rfl, ob, ast_of i hput_eq rfl (by omega), ob, hput_hput, c32_n (by omega) (by omega), ob]
      refine ⟨(c + T (o j), _), ⟨by omega, _, hput_eq, fun q hq => ?_, ?_, R3.pu (by omega) _, (b5.tr ((Fr.rf.put (q := 80) (S := fun k => k = 76 ∨ k = 78 ∨ k = 80) (by omega)).tr F3)).put (by omega)⟩, rfl⟩
      · rw [ups_at, ups_at, d2 j hj, d2 i (by omega), d2 q hq]
        unfold osw
        by_cases w1 : q = i
        · rw [if_pos w1, w1]
          by_cases w3 : j = i
          · rw [if_pos w3, w3]
          · rw [if_neg w3, if_pos rfl]
        · rw [if_neg w1]
          by_cases w2 : q = j
          · rw [if_pos w2, if_pos rfl, w2]
          · rw [if_neg w2, if_neg w1, if_neg w2]
      · show c + T (o j) = sumN (j + 1) (fun j => if i ≤ j then T (o j) else 0)
        simp only [sumN]
        rw [if_pos hij, b3]
    · intro N' ⟨c, z⟩ ⟨hij, B, b1, b2, b3, b4, b5⟩
      have b4 : RI z s hist x flt := b4
      have b3 : c = sumN (sn s) (fun j => if i ≤ j then T (o j) else 0) := b3
      show ∃ (h' : Hp) (A' : Nat → Int), fX12_orders_22 (fX12_orders N) (N' + 1) 62 i c (sn s) z = _ ∧ _
      rw [fX12_orders_22, b4.nb, if_pos (by show (sn s : Int) ≤ sn s; omega), fX12_orders_107, b3]
      exact ⟨z, B, rfl, b1, b2, b4, b5⟩
end
