section
variable {n : Nat} {W W' X X' K K' : Nat → Int} {p p' : Nat → Bool}
theorem hsum_congr (hn : n ≤ 12) (eW : Eqn 144 W W') (ep : ∀ i, i < n → p i = p' i) {t : Nat} (ht : t < 12) : hsum n W p t = hsum n W' p' t :=
  sumN_congr (fun i hi => by rw [ep i hi, eW _ (by omega)])
theorem hrch_congr (eW : Eqn 144 W W') {t b : Nat} (ep : ∀ i, i < b → p i = p' i) (ht : t < 12) (hb : b ≤ 12) : hrch W p t b = hrch W' p' t b :=
  maxN_congr (fun i hi => by rw [ep i hi, eW _ (by omega)])
theorem hwd_congr (hn : n ≤ 12) (eW : Eqn 144 W W') (ep : ∀ i, i < n → p i = p' i) : hwd n W p = hwd n W' p' :=
  maxN_congr (fun i hi => by rw [ep i hi, hrch_congr eW (fun j hj => ep j (by omega)) (by omega) (by omega)])
theorem hsq_congr (hn : n ≤ 12) (eW : Eqn 144 W W') (ep : ∀ i, i < n → p i = p' i) : hsq n W p = hsq n W' p' :=
  sumN_congr (fun i hi => by
    have : hsq1 W p i = hsq1 W' p' i := sumN_congr (fun j hj => by rw [ep j (by omega), eW _ (by omega)])
    rw [ep i hi, this])
theorem hct_congr (ep : ∀ i, i < n → p i = p' i) : hct n p = hct n p' := sumN_congr (fun i hi => by rw [ep i hi])
theorem hqr_congr (hn : n ≤ 12) (eX : Eqn 144 X X') (eK : Eqn 144 K K') (ep : ∀ i, i < n → p i = p' i) : hqr n X K p = hqr n X' K' p' :=
  sumN_congr (fun i hi => by
    have : hqr1 X K p i = hqr1 X' K' p' i := sumN_congr (fun j hj => by
      have : qrl X K (12 * i + j) = qrl X' K' (12 * i + j) := by unfold qrl; rw [eX _ (by omega), eK _ (by omega)]
      rw [ep j (by omega), this])
    rw [ep i hi, this])
theorem hmd_congr (hn : n ≤ 12) (eW : Eqn 144 W W') (ep : ∀ i, i < n → p i = p' i) : ∀ i, i ≤ n → hmd n W p i = hmd n W' p' i := by
  intro i
  induction i with
  | zero => intro _; rfl
  | succ i ih =>
    intro hi
    have e := ih (by omega)
    simp only [hmd]
    have hm := hmd_in n W' p' i
    rw [e, ep i (by omega), hsum_congr hn eW ep (t := i) (by omega)]
    by_cases z : hmd n W' p' i = -1
    · rw [z]; simp
    · rw [hsum_congr hn eW ep (t := (hmd n W' p' i).toNat) (by omega)]
theorem hco_congr (hn : n ≤ 12) (eW : Eqn 144 W W') (eX : Eqn 144 X X') (eK : Eqn 144 K K') (ep : ∀ i, i < n → p i = p' i) (g : Int) : hco n W X K g p = hco n W' X' K' g p' := by
  unfold hco
  rw [hct_congr ep, hsq_congr hn eW ep, hmd_congr hn eW ep n (Nat.le_refl _), hwd_congr hn eW ep, hqr_congr hn eX eK ep]
  have hm := hmd_in n W' p' n
  by_cases z : hmd n W' p' n = -1
  · simp only [z, if_pos]
  · rw [hsum_congr hn eW ep (t := (hmd n W' p' n).toNat) (by omega)]
theorem grd_congr (hn : n ≤ 12) (eX : Eqn 144 X X') (eK : Eqn 144 K K') : grd n X K = grd n X' K' :=
  sumN_congr (fun i hi => sumN_congr (fun j hj => by rw [eX _ (by omega), eK _ (by omega)]))
theorem grd_bd (hn : n ≤ 12) (hX : Xok X K) : 0 ≤ grd n X K ∧ grd n X K ≤ 144000 := by
  have h1 : ∀ i, i < n → 0 ≤ sumN i (fun b => K (12 * i + b) * X (12 * i + b)) ∧ sumN i (fun b => K (12 * i + b) * X (12 * i + b)) ≤ 12000 := by
    intro i hi
    have a1 : 0 ≤ sumN i (fun b => K (12 * i + b) * X (12 * i + b)) := sumN_nonneg (fun j hj => (kx_bd hX (by omega)).1)
    have a2 : sumN i (fun b => K (12 * i + b) * X (12 * i + b)) ≤ i * 1000 := sumN_le (fun j hj => (kx_bd hX (by omega)).2)
    omega
  have a1 : 0 ≤ grd n X K := sumN_nonneg (fun i hi => (h1 i hi).1)
  have a2 : grd n X K ≤ n * 12000 := sumN_le (fun i hi => (h1 i hi).2)
  omega
end
/-- a parting's cost, heap by heap -/
def cfold (g c0 : Int) (T : Nat → Int) : Nat → Int
  | 0 => c0
  | i + 1 => if g = 2 then max (cfold g c0 T i) (T i) else cfold g c0 T i + T i
theorem cfold_congr {g c0 : Int} {T T' : Nat → Int} {k : Nat} (e : ∀ i, i < k → T i = T' i) : cfold g c0 T k = cfold g c0 T' k := by
  induction k with
  | zero => rfl
  | succ k ih => simp only [cfold]; rw [ih (fun i hi => e i (by omega)), e k (by omega)]
theorem cfold_2 (T : Nat → Int) (k : Nat) : cfold 2 0 T k = maxN k T := by
  induction k with
  | zero => rfl
  | succ k ih => simp only [cfold, maxN]; rw [ih, if_pos trivial]
theorem cfold_s {g : Int} (hg : g ≠ 2) (c0 : Int) (T : Nat → Int) (k : Nat) : cfold g c0 T k = c0 + sumN k T := by
  induction k with
  | zero => simp [cfold, sumN]
  | succ k ih => simp only [cfold, sumN]; rw [ih, if_neg hg]; omega
def pv (f : Nat → Int) (v : Int) : Nat → Bool := fun i => decide (f i = v)
def cst (n : Nat) (W X K : Nat → Int) (g : Int) (f : Nat → Int) : Int := cfold g (if g = 3 then grd n X K else 0) (fun v => hco n W X K g (pv f v)) (mx f n).toNat
theorem cst_congr {n : Nat} {W W' X X' K K' f f' : Nat → Int} (hn : n ≤ 12) (eW : Eqn 144 W W') (eX : Eqn 144 X X') (eK : Eqn 144 K K') (ef : Eqn n f f') (g : Int) : cst n W X K g f = cst n W' X' K' g f' := by
  unfold cst
  rw [grd_congr hn eX eK, mx_congr ef]
  exact cfold_congr (fun v _ => hco_congr hn eW eX eK (fun i hi => by unfold pv; rw [ef i hi]) g)
section
variable {h : Hp} {q n : Nat} {m k : Int} {P W X K f : Nat → Int}
theorem ofParting_ok (S : isSq h q n m P W X K k f) (hn1 : 1 ≤ n) (hn : n ≤ 12) (hW : Wok W) (hX : Xok X K) (g : Int) {q2 : Nat} {f2 : Nat → Int} (P2 : isPt h q2 n (mx f2 n) f2) (hr : RGS n f2) : fX0_ofParting q g q2 h = some (cst n W X K g f2, h) := by
  have hm := hr.mx_le; have hm0 := mx_nonneg f2 n
  unfold fX0_ofParting
  rw [ground_ok S hn1 hn hX g, ob]
  have hg := grd_bd hn hX
  refine lp (fun N i (c : Int) => fX0_ofParting_9 N q g q2 c i h) (fun i c => c = cfold g (if g = 3 then grd n X K else 0) (fun v => hco n W X K g (pv f2 v)) i ∧ -(1000000 + i * 1000000000000000) ≤ c ∧ c ≤ 1000000 + i * 1000000000000000) (mx f2 n).toNat (fun r => r = some (cst n W X K g f2, h)) ?_ ?_ FU 0 _ (Nat.zero_le _) (FU_lt (by omega)) ⟨rfl, by split <;> omega, by split <;> omega⟩
  · intro N i c hi ⟨h1, h2, h3⟩
    have eT : hco n W X K g (msk (fun j => decide (f2 j = (i : Int))) n).testBit = hco n W X K g (pv f2 i) := hco_congr hn (fun _ _ => rfl) (fun _ _ => rfl) (fun _ _ => rfl) (fun j hj => by rw [msk_bit]; simp [hj, pv]) g
    have hb := hco_bd hn hW hX g (pv f2 i)
    have hM := msk_lt (fun j => decide (f2 j = (i : Int))) n
    have hM2 : 2 ^ n ≤ 2 ^ 12 := Nat.pow_le_pow_right (by decide) hn
    refine ⟨if g = 2 then max c (hco n W X K g (pv f2 i)) else c + hco n W X K g (pv f2 i), ⟨by simp only [cfold]; rw [h1], ?_, ?_⟩, ?_⟩
    · split <;> omega
    · split <;> omega
    · simp only [fX0_ofParting_9]
      rw [gI 1 P2.1 rfl, ob, if_neg (by omega), co P2.1, ob, membersOf_ok hn P2, ob, ofHeap_ok S hn1 hn hW hX (by omega), ob, eT]
      unfold fX0_with
      simp only [fX0_with_16]
      by_cases g2 : g = 2
      · rw [if_pos g2, ob, c32_n (by omega) (by omega), ob, if_pos g2]; rfl
      · rw [if_neg g2, c64_n (by omega) (by omega), ob, ob, c32_n (by omega) (by omega), ob, if_neg g2]; rfl
  · intro N c ⟨h1, _⟩
    simp only [fX0_ofParting_9, fX0_ofParting_41]
    rw [gI 1 P2.1 rfl, ob, if_pos (by omega), h1]; rfl
end
