/-! thirds: the sum over the orders of one set -/
theorem hct_ext {p : Nat → Bool} {n : Nat} : ∀ m, n ≤ m → (∀ j, n ≤ j → p j = false) → hct m p = hct n p := by
  intro m
  induction m with
  | zero => intro h _; have : n = 0 := by omega
            subst this; rfl
  | succ m ih =>
    intro h hp
    by_cases e : n = m + 1
    · rw [e]
    · have e1 : hct (m + 1) p = hct m p + (if p m then 1 else 0) := rfl
      rw [e1, ih (by omega) hp, hp m (by omega)]; simp
theorem bcv_7 : ∀ M : Nat, M < 128 → bcv (M : Int) = some (hct 7 M.testBit) := by
  unfold bcv fJ6_bitCount_0f7a4
  decide +kernel
theorem tb_off {M n j : Nat} (hM : M < 2 ^ n) (hj : n ≤ j) : M.testBit j = false := Nat.testBit_lt_two_pow (Nat.lt_of_lt_of_le hM (Nat.pow_le_pow_right (by decide) hj))
theorem bc_7 {n M : Nat} (hn : n ≤ 7) (hM : M < 2 ^ n) (h : Hp) : fJ6_bitCount_0f7a4 (M : Int) h = some (hct n M.testBit, h) := by
  have h7 : M < 128 := Nat.lt_of_lt_of_le hM (by have : 2 ^ n ≤ 2 ^ 7 := Nat.pow_le_pow_right (by decide) hn; omega)
  rw [bc_gen, bcv_7 M h7, hct_ext 7 hn (fun j hj => tb_off hM hj)]; rfl
theorem ordN_fcl : ∀ j : Nat, j < 8 → ordN j = fcl j := by decide +kernel
theorem ord_div : ∀ d : Nat, d < 7 → ∀ k : Nat, k < 8 → k ≤ d → fcl d = bDiv (fcl d) (fcl k) * fcl k := by decide +kernel
theorem fcl_pos (d : Nat) : 0 < fcl d := by
  induction d with
  | zero => decide
  | succ d ih => simp only [fcl]; exact Int.mul_pos (by omega) ih
theorem ldO_n {c : Int} {j : Nat} (hc : c = j) (hj : j < 8) : ldO c = some (fcl j) := by
  subst hc
  unfold ldO
  rw [if_pos ⟨by omega, by omega⟩, Int.toNat_natCast, ordN_fcl j hj]
/-- the sum over all orders of a set that is a number's bits -/
def SV (n : Nat) (X K : Nat → Int) (M : Nat) : Int := OS n (hct n M.testBit).toNat (CP n X K M.testBit) M.testBit
theorem SV_0 (n : Nat) (X K : Nat → Int) : SV n X K 0 = 0 := by
  have e : hct n (Nat.testBit 0) = 0 := sumN_zero (fun i _ => by simp)
  unfold SV
  rw [e]
  show CP n X K (Nat.testBit 0) [] = 0
  unfold CP
  exact sumN_zero (fun a _ => sumN_zero (fun b _ => by unfold CPt; simp))
theorem OS_bd7 {n : Nat} (hn : n ≤ 12) {X K : Nat → Int} (hX : Xok X K) (p : Nat → Bool) {d : Nat} (hd : d ≤ 7) (g : List Nat → List Nat) (q : Nat → Bool) : -100000000000000 ≤ OS n d (fun l => CP n X K p (g l)) q ∧ OS n d (fun l => CP n X K p (g l)) q ≤ 100000000000000 := by
  have h := OS_bd (n := n) hn (B := 144000) (by omega) d (φ := fun l => CP n X K p (g l)) q (fun l => CP_bd hn hX p _)
  have h2 : (12 : Int) ^ d ≤ 12 ^ 7 := by
    have : ∀ d : Nat, d < 8 → (12 : Int) ^ d ≤ 12 ^ 7 := by decide
    exact this d (by omega)
  have h3 : (12 : Int) ^ d * 144000 ≤ 12 ^ 7 * 144000 := Int.mul_le_mul_of_nonneg_right h2 (by omega)
  have h4 : (12 : Int) ^ 7 * 144000 = 5159780352000 := by decide
  omega
section
variable {h : Hp} {n : Nat} {P W X K f : Nat → Int} {k : Int}
theorem sumOver_ok (S : isSc h 2 n P W X K k f) (hn7 : n ≤ 7) (hX : Xok X K) (sX : Sym n X) (sK : Sym n K) (o : h.2 44 = some (obj 1 [vr 45, vr 46])) {F : Nat → Int} (e : h.2 46 = some (arr 1 128 F)) {M : Nat} (hM1 : 1 ≤ M) (hM : M < 2 ^ n) (hF : ∀ M', M' < M → F M' = SV n X K M') : fX2_sumOver 44 2 M h = some (SV n X K M, h) := by
  have h7 : M < 128 := Nat.lt_of_lt_of_le hM (by have : 2 ^ n ≤ 2 ^ 7 := Nat.pow_le_pow_right (by decide) hn7; omega)
  obtain ⟨i0, hi0⟩ := Nat.exists_testBit_of_ne_zero (show M ≠ 0 by omega)
  have hi0n : i0 < n := by
    rcases Nat.lt_or_ge i0 n with w | w
    · exact w
    · rw [tb_off hM w] at hi0; exact absurd hi0 (by decide)
  have hc1 := hct_pos hi0n hi0
  have hc2 := hct_bd n M.testBit
  obtain ⟨d, hd⟩ : ∃ d : Nat, hct n M.testBit = ((d + 1 : Nat) : Int) := ⟨(hct n M.testBit).toNat - 1, by omega⟩
  have hd6 : d < 7 := by omega
  unfold fX2_sumOver
  rw [bc_7 hn7 hM h, ob]
  show ((ldO (hct n M.testBit - 1)).bind fun v2 => fX2_sumOver_17 FU 44 2 M v2 0 0 h) = _
  rw [ldO_n (j := d) (by omega) (by omega), ob]
  have eSV : SV n X K M = sumN n (fun t => if M.testBit t then OS n d (fun l => CP n X K M.testBit (t :: l)) (rmv M.testBit t) else 0) := by
    unfold SV
    rw [hd, Int.toNat_natCast]; rfl
  rw [eSV]
  refine lpsum (fun N t c => fX2_sumOver_17 N 44 2 M (fcl d) c t h) (fun t => if M.testBit t then OS n d (fun l => CP n X K M.testBit (t :: l)) (rmv M.testBit t) else 0) n 0 0 100000000000000 _ (by omega) (Nat.zero_le _) (fun i hi => by omega) (fun t ht => ?_) ?_ ?_
  · have := OS_bd7 (n := n) (by omega) hX M.testBit (d := d) (by omega) (fun l => t :: l) (rmv M.testBit t)
    show -100000000000000 ≤ (if M.testBit t then OS n d (fun l => CP n X K M.testBit (t :: l)) (rmv M.testBit t) else 0) ∧ (if M.testBit t then OS n d (fun l => CP n X K M.testBit (t :: l)) (rmv M.testBit t) else 0) ≤ 100000000000000
    split <;> omega
  · intro N t c _ ht h2 h3
    show fX2_sumOver_17 (N + 1) 44 2 M (fcl d) c t h = fX2_sumOver_17 N 44 2 M (fcl d) (c + if M.testBit t then OS n d (fun l => CP n X K M.testBit (t :: l)) (rmv M.testBit t) else 0) ((t + 1 : Nat) : Int) h
    rw [fX2_sumOver_17, gI 0 S.1 rfl, ob, if_neg (by omega), has_ok h (by omega) (by omega), ob]
    by_cases y : M.testBit t = true
    · rw [if_pos y, if_neg one0, if_pos y]
      obtain ⟨m, em, hm, bm⟩ := likedBy_ok S (by omega) (p := t) (M := M) (by omega) (by omega)
      have bL : ∀ j, (ndf M m).testBit j = (M.testBit j && !m.testBit j) := fun j => ndf_bit (by omega) (by omega) j
      have hA : ∀ j, j < n → m.testBit j = (M.testBit j && TkB X K t j) := by
        intro j hj
        have b1 := bm j (by omega)
        have b2 := TkB_iff X K t j
        cases em : m.testBit j with
        | true =>
          rcases b1.mp em with z | z
          · subst z; rw [y, b2.mpr (Or.inl rfl)]; rfl
          · rw [z.2.1, b2.mpr (Or.inr z.2.2)]; rfl
        | false =>
          cases eM : M.testBit j with
          | false => rfl
          | true =>
            cases eT : TkB X K t j with
            | false => rfl
            | true =>
              have : m.testBit j = true := b1.mpr ((b2.mp eT).elim Or.inl (fun z => Or.inr ⟨hj, eM, z⟩))
              rw [em] at this; exact absurd this (by decide)
      have hB : ∀ j, j < n → (ndf M m).testBit j = (M.testBit j && !TkB X K t j) := by
        intro j hj
        rw [bL, hA j hj]
        cases M.testBit j <;> cases TkB X K t j <;> rfl
      have hLle : ndf M m ≤ M := ndf_le (by omega)
      have hLlt : ndf M m < M := by
        rcases Nat.lt_or_ge (ndf M m) M with w | w
        · exact w
        · have e1 : ndf M m = M := by omega
          have e2 := bL t
          have e3 : m.testBit t = true := (bm t (by omega)).mpr (Or.inl rfl)
          rw [e1, y, e3] at e2; exact absurd e2 (by decide)
      have hLn : ndf M m < 2 ^ n := by omega
      have hk0 := hct_bd n (ndf M m).testBit
      obtain ⟨kk, hkk⟩ : ∃ kk : Nat, hct n (ndf M m).testBit = (kk : Int) := ⟨(hct n (ndf M m).testBit).toNat, by omega⟩
      have hkd : hct n (ndf M m).testBit ≤ hct n (rmv M.testBit t) := by
        unfold hct
        have : ∀ i, i < n → (0 : Int) ≤ (if rmv M.testBit t i then 1 else 0) - (if (ndf M m).testBit i then 1 else 0) := by
          intro i hi
          rw [hB i hi, rmv_at]
          by_cases w : i = t
          · subst w
            have : TkB X K i i = true := (TkB_iff X K i i).mpr (Or.inl rfl)
            simp [this]
          · cases M.testBit i <;> cases TkB X K t i <;> simp [w]
        have e1 := sumN_nonneg (n := n) this
        have e2 := sumN_add (n := n) (fun i => (if rmv M.testBit t i then (1 : Int) else 0) - (if (ndf M m).testBit i then 1 else 0)) (fun i => if (ndf M m).testBit i then (1 : Int) else 0)
        have e3 : sumN n (fun i => ((if rmv M.testBit t i then (1 : Int) else 0) - (if (ndf M m).testBit i then 1 else 0)) + (if (ndf M m).testBit i then (1 : Int) else 0)) = sumN n (fun i => if rmv M.testBit t i then (1 : Int) else 0) := sumN_congr (fun i _ => by omega)
        omega
      have hrm := hct_rmv ht y
      have hkd' : kk ≤ d := by omega
      have hk' : hct n (fun j => M.testBit j && !TkB X K t j) = kk := by rw [← hkk]; exact (hct_congr hB).symm
      have fst := OS_first (X := X) (K := K) hd ht y hk'
      have eL : SV n X K (ndf M m) = OS n kk (CP n X K (fun j => M.testBit j && !TkB X K t j)) (fun j => M.testBit j && !TkB X K t j) := by
        unfold SV
        rw [hkk, Int.toNat_natCast]
        exact OS_congr kk hB (fun l _ => CP_congr hB l)
      have key : OS n d (fun l => CP n X K M.testBit (t :: l)) (rmv M.testBit t) = fcl d * tks n X K m (ndf M m) + bDiv (fcl d) (fcl kk) * F (ndf M m) := by
        have dv := ord_div d hd6 kk (by omega) hkd'
        have fp := fcl_pos kk
        rw [hF _ hLlt, eL, tks_ctk (by omega) hX sX sK hA hB]
        refine Int.eq_of_mul_eq_mul_left (show fcl kk ≠ 0 by omega) ?_
        rw [fst, Int.mul_add]
        congr 1
        generalize bDiv (fcl d) (fcl kk) = z at *
        rw [dv, Int.mul_comm z (fcl kk), Int.mul_assoc]
      have gb := OS_bd7 (n := n) (by omega) hX M.testBit (d := d) (by omega) (fun l => t :: l) (rmv M.testBit t)
      show ((fX2_likedBy 2 t M h).bind fun _ => _) = _
      rw [em, ob]
      show ((fJ6_bitCount_0f7a4 (bAnd M (bXor m (-1))) h).bind fun _ => _) = _
      rw [bNot_n (by omega), bc_7 hn7 hLn h, ob]
      show ((ldO (hct n (ndf M m).testBit)).bind fun _ => _) = _
      rw [ldO_n hkk (by omega), ob]
      have : cnz (fcl kk) = some () := if_neg (by have := fcl_pos kk; omega)
      rw [this, ob]
      show ((fX2_costOfTaking 2 m (ndf M m) h).bind fun _ => _) = _
      rw [costOfTaking_ok S (by omega) hX hm (by omega), ob]
      show ((getR h 1 44 1).bind fun _ => _) = _
      rw [gR 1 o rfl, ob]
      show ((ald h 1 46 (ndf M m : Nat)).bind fun _ => _) = _
      rw [ald_of (ndf M m) e rfl (by omega), ob]
      show ((c64 (c + (fcl d * tks n X K m (ndf M m) + bDiv (fcl d) (fcl kk) * F (ndf M m)))).bind fun _ => fX2_sumOver_93 (fX2_sumOver_17 N) 44 2 M (fcl d) (c + (fcl d * tks n X K m (ndf M m) + bDiv (fcl d) (fcl kk) * F (ndf M m))) t h) = _
      rw [← key, c64_n (by omega) (by omega), ob, fX2_sumOver_93, c32_n (by omega) (by omega), ob]; rfl
    · rw [if_neg y, if_pos rfl, if_neg y, Int.add_zero]
      show fX2_sumOver_93 (fX2_sumOver_17 N) 44 2 M (fcl d) c t h = _
      rw [fX2_sumOver_93, c32_n (by omega) (by omega), ob]; rfl
  · intro N
    show fX2_sumOver_17 (N + 1) 44 2 M (fcl d) (0 + sumN n _) n h = _
    rw [fX2_sumOver_17, gI 0 S.1 rfl, ob, if_pos (by omega), fX2_sumOver_99, Int.zero_add]
end
