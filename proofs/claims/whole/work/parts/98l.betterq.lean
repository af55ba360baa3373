/-! better: a move's cost is that of the parting it makes; how far the cost falls -/
theorem mc_lab {n : Nat} {f : Nat → Int} (hr : RGS n f) {t v : Nat} (hv : (v : Int) ≤ mx f n) : ∀ i, i < n → 0 ≤ ups f t v i ∧ ups f t v i < (((mx f n).toNat + 1 : Nat) : Int) := by
  intro i hi
  have h0 := mx_nonneg f n
  rw [ups_at]
  split
  · omega
  · have := hr i hi; have := lt_mx (g := f) hi; omega
theorem mc_cst {n : Nat} {W X K f g1 : Nat → Int} {g : Int} (hn : n ≤ 12) (hr : RGS n f) {t v : Nat} (hv : (v : Int) ≤ mx f n) (hN : RN n (ups f t v) g1) : cst n W X K g g1 = mc n W X K g f t v := cst_lab0 hn (mc_lab hr hv) hN
theorem hct_true (n : Nat) : hct n (fun _ => true) = n := by
  induction n with
  | zero => rfl
  | succ n ih =>
    have e : hct (n + 1) (fun _ => true) = hct n (fun _ => true) + 1 := rfl
    rw [e, ih]; rfl
theorem avg {n : Nat} (p : Nat → Bool) (F : Nat → Int) (h1 : 1 ≤ hct n p) : ∃ t, t < n ∧ p t = true ∧ sumN n (fun t => if p t then F t else 0) ≤ hct n p * F t := by
  rcases Classical.em (∃ t, t < n ∧ p t = true ∧ sumN n (fun t => if p t then F t else 0) ≤ hct n p * F t) with y | y
  · exact y
  · have h2 : ∀ t, t < n → p t = true → hct n p * F t ≤ sumN n (fun t => if p t then F t else 0) - 1 := by
      intro t ht hp
      rcases Int.lt_or_le (hct n p * F t) (sumN n (fun t => if p t then F t else 0)) with w | w
      · omega
      · exact absurd ⟨t, ht, hp, w⟩ y
    generalize hS : sumN n (fun t => if p t then F t else 0) = S at *
    have h3 : sumN n (fun t => if p t then hct n p * F t else 0) = hct n p * S := by
      rw [← hS, ← sumN_mul]
      exact sumN_congr (fun i _ => by split <;> simp)
    have h4 : 0 ≤ sumN n (fun t => (if p t then S - 1 else 0) + (-1) * (if p t then hct n p * F t else 0)) := sumN_nonneg (fun i hi => by
      by_cases w : p i = true
      · have := h2 i hi w
        simp only [w, if_true]; omega
      · simp [w])
    rw [sumN_add, sumN_mul, sumN_ct, h3] at h4
    have h5 : hct n p * (S - 1) = hct n p * S - hct n p := by rw [Int.mul_sub, Int.mul_one]
    omega
/-- squares of ways from a thing to a heap -/
def ysq (n : Nat) (W : Nat → Int) (p : Nat → Bool) (t : Nat) : Int := sumN n (fun b => if p b then W (12 * t + b) * W (12 * t + b) else 0)
theorem ysq_two {n : Nat} {W : Nat → Int} (hS : Sym n W) (hD : ∀ a, a < n → W (12 * a + a) = 0) (p : Nat → Bool) : sumN n (fun t => if p t then ysq n W p t else 0) = 2 * hsq n W p := by
  have e1 : sumN n (fun t => if p t then ysq n W p t else 0) = sumN n (fun a => sumN n (fun b => if p a then (if p b then W (12 * a + b) * W (12 * a + b) else 0) else 0)) := sumN_congr (fun a _ => by
    by_cases z : p a = true
    · rw [if_pos z]; exact sumN_congr (fun b _ => by rw [if_pos z])
    · rw [if_neg z]; exact (sumN_zero (fun b _ => by rw [if_neg z])).symm)
  rw [e1, sum_pairs (F := fun a b => if p a then (if p b then W (12 * a + b) * W (12 * a + b) else 0) else 0) (fun a ha => by simp [hD a ha]), ← rsq_eq hS p]
  unfold rsq rsq1
  rw [← sumN_mul]
  refine sumN_congr (fun a ha => ?_)
  by_cases z : p a = true
  · rw [if_pos z, ← sumN_mul]
    refine sumN_congr (fun b hb => ?_)
    rw [hS b a hb ha]
    by_cases y : a < b <;> by_cases w : p b = true <;> simp [y, w, z] <;> omega
  · rw [if_neg z, Int.mul_zero]
    exact sumN_zero (fun b hb => by
      by_cases y : a < b <;> by_cases w : p b = true <;> simp [y, w, z])
theorem ysq_rmv {n : Nat} {W : Nat → Int} (hS : Sym n W) (hD : ∀ a, a < n → W (12 * a + a) = 0) {p : Nat → Bool} {t : Nat} (ht : t < n) (hp : p t = true) : hsq n W p = hsq n W (rmv p t) + ysq n W p t := by
  have e1 := ysq_two hS hD p
  have e2 := ysq_two hS hD (rmv p t)
  -- the inner sums
  have e3 : ∀ a, a < n → ysq n W p a = ysq n W (rmv p t) a + W (12 * a + t) * W (12 * a + t) := by
    intro a ha
    unfold ysq
    rw [sumN_one (F := fun b => if p b then W (12 * a + b) * W (12 * a + b) else 0) (G := fun b => if rmv p t b then W (12 * a + b) * W (12 * a + b) else 0) ht (fun i _ hi => by rw [rmv_at, if_neg hi])]
    rw [rmv_at, if_pos rfl, hp]
    simp
  have e4 : sumN n (fun a => if p a then ysq n W p a else 0) = sumN n (fun a => if rmv p t a then ysq n W p a else 0) + ysq n W p t := by
    rw [sumN_one (F := fun a => if p a then ysq n W p a else 0) (G := fun a => if rmv p t a then ysq n W p a else 0) ht (fun i _ hi => by rw [rmv_at, if_neg hi])]
    rw [rmv_at, if_pos rfl, hp]
    simp
  have e5 : sumN n (fun a => if rmv p t a then ysq n W p a else 0) = sumN n (fun a => if rmv p t a then ysq n W (rmv p t) a else 0) + sumN n (fun a => if rmv p t a then W (12 * a + t) * W (12 * a + t) else 0) := by
    rw [← sumN_add]
    refine sumN_congr (fun a ha => ?_)
    rw [e3 a ha]
    split <;> simp
  have e6 : sumN n (fun a => if rmv p t a then W (12 * a + t) * W (12 * a + t) else 0) = ysq n W p t := by
    unfold ysq
    refine sumN_congr (fun a ha => ?_)
    rw [hS a t ha ht, rmv_at]
    by_cases z : a = t
    · subst z; simp [hD a ha]
    · rw [if_neg z]
  omega
theorem hco0 {n : Nat} {W X K : Nat → Int} (hn : n ≤ 12) (p : Nat → Bool) (hp : 1 ≤ hct n p) : hct n p * hco n W X K 0 p = 27720 * hsq n W p := by
  have hb := hct_bd n p
  have hd := d27 (z := hct n p) hp (by omega)
  unfold hco
  rw [if_pos rfl, if_neg (by omega)]
  obtain ⟨c, hc⟩ := hd
  have : hsq n W p * 27720 = hct n p * (hsq n W p * c) := by rw [hc, ← Int.mul_assoc, ← Int.mul_assoc, Int.mul_comm (hsq n W p)]
  rw [this, Int.mul_ediv_cancel_left _ (by omega), ← this, Int.mul_comm]
/-- by SPREAD some move takes a fair part of the cost away -/
theorem drop0 {n : Nat} {W X K f : Nat → Int} (hn : n ≤ 12) (hW : Wok W) (hS : Sym n W) (hD : ∀ a, a < n → W (12 * a + a) = 0) (hr : RGS n f) (hc : 0 < cst n W X K 0 f) : ∃ t v : Nat, t < n ∧ (v : Int) ≤ mx f n ∧ okm n f t v = true ∧ 132 * mc n W X K 0 f t v ≤ 131 * cst n W X K 0 f := by
  have hm0 := mx_nonneg f n
  have hml := hr.mx_le
  obtain ⟨kk, hkk⟩ : ∃ kk : Nat, mx f n = (kk : Int) := ⟨(mx f n).toNat, by omega⟩
  have ec : cst n W X K 0 f = sumN kk (fun u => hco n W X K 0 (pv f u)) := by
    unfold cst
    rw [cfold_s (by decide), if_neg (by decide), hkk, Int.toNat_natCast, Int.zero_add]
  have hk1 : 1 ≤ hct kk (fun _ => true) := by
    rw [hct_true]
    rcases Nat.eq_zero_or_pos kk with z | z
    · subst z; rw [ec] at hc; simp [sumN] at hc
    · omega
  obtain ⟨u, hu, -, hau⟩ := avg (n := kk) (fun _ => true) (fun u => hco n W X K 0 (pv f u)) hk1
  rw [hct_true] at hau
  simp only [if_true] at hau
  have hH : 0 < hco n W X K 0 (pv f u) := by
    rcases Int.lt_or_le 0 (hco n W X K 0 (pv f u)) with w | w
    · exact w
    · have : (kk : Int) * hco n W X K 0 (pv f u) ≤ kk * 0 := Int.mul_le_mul_of_nonneg_left w (by omega)
      omega
  have hct1 : 1 ≤ hct n (pv f u) := by
    have hb := hct_bd n (pv f u)
    rcases Int.lt_or_le 0 (hct n (pv f u)) with w | w
    · omega
    · exfalso
      unfold hco at hH
      rw [if_pos rfl, if_pos (by omega)] at hH
      omega
  obtain ⟨t, ht, hp, hat⟩ := avg (n := n) (pv f u) (ysq n W (pv f u)) hct1
  rw [ysq_two hS hD] at hat
  have hft : f t = u := by unfold pv at hp; simpa using hp
  have eS := ysq_rmv hS hD ht hp
  have hSn := (hsq_bd hn hW (rmv (pv f u) t)).1
  have e0 := hco0 (W := W) (X := X) (K := K) hn (pv f u) hct1
  have hb := hct_bd n (pv f u)
  have hSpos : 0 < hsq n W (pv f u) := by
    rcases Int.lt_or_le 0 (hsq n W (pv f u)) with w | w
    · exact w
    · exfalso
      have : 0 < hct n (pv f u) * hco n W X K 0 (pv f u) := Int.mul_pos (by omega) hH
      omega
  have hy : 0 < ysq n W (pv f u) t := by
    rcases Int.lt_or_le 0 (ysq n W (pv f u) t) with w | w
    · exact w
    · exfalso
      have : hct n (pv f u) * ysq n W (pv f u) t ≤ hct n (pv f u) * 0 := Int.mul_le_mul_of_nonneg_left w (by omega)
      omega
  have y0 : ¬ (∀ b, b < n → rmv (pv f u) t b = false) := by
    intro hz
    have : ysq n W (pv f u) t = 0 := sumN_zero (fun b hb => by
      have h1 := hz b hb
      rw [rmv_at] at h1
      by_cases z : b = t
      · subst z; simp [hD b hb]
      · rw [if_neg z] at h1; simp [h1])
    omega
  have hrm := hct_rmv ht hp
  have h2 : 1 ≤ hct n (rmv (pv f u) t) := by
    rcases Int.lt_or_le 0 (hct n (rmv (pv f u) t)) with w | w
    · omega
    · exfalso
      refine y0 (fun b hb => ?_)
      cases e : rmv (pv f u) t b with
      | false => rfl
      | true => have := hct_pos hb e; omega
  have e1 := hco0 (W := W) (X := X) (K := K) hn (rmv (pv f u) t) h2
  have emc : mc n W X K 0 f t kk = sumN kk (fun v => hco n W X K 0 (pv f v)) + (hco n W X K 0 (rmv (pv f u) t) - hco n W X K 0 (pv f u)) := by
    unfold mc
    rw [cfold_s (by decide), if_neg (by decide), hkk, Int.toNat_natCast, Int.zero_add]
    simp only [sumN]
    have ek : hco n W X K 0 (pv (ups f t kk) kk) = 0 := by
      have q0 : hsq n W (pv (ups f t kk) kk) = 0 := by
        refine sumN_zero (fun a ha => ?_)
        split
        · rename_i za
          refine sumN_zero (fun b hb => ?_)
          split
          · rename_i zb
            exfalso
            unfold pv at za zb
            rw [ups_at] at za zb
            have l1 := lt_mx (g := f) (n := n) ha
            have l2 := lt_mx (g := f) (n := n) (i := b) (by omega)
            by_cases w1 : a = t
            · have w2 : b ≠ t := by omega
              rw [if_neg w2] at zb
              have : f b = kk := by simpa using zb
              omega
            · rw [if_neg w1] at za
              have : f a = kk := by simpa using za
              omega
          · rfl
        · rfl
      unfold hco
      rw [if_pos rfl, q0]
      split
      · rfl
      · simp
    have eu : hco n W X K 0 (pv (ups f t kk) u) = hco n W X K 0 (rmv (pv f u) t) := hco_congr hn (fun _ _ => rfl) (fun _ _ => rfl) (fun _ _ => rfl) (fun i hi => by
      rw [rmv_at]
      unfold pv
      rw [ups_at]
      by_cases w : i = t
      · rw [if_pos w, if_pos w]; simp; omega
      · rw [if_neg w, if_neg w]) 0
    rw [ek, sumN_one (F := fun v : Nat => hco n W X K 0 (pv (ups f t kk) v)) (G := fun v : Nat => hco n W X K 0 (pv f v)) hu (fun v hv hvu => hco_congr hn (fun _ _ => rfl) (fun _ _ => rfl) (fun _ _ => rfl) (fun i hi => by
      unfold pv
      rw [ups_at]
      by_cases w : i = t
      · rw [if_pos w, w, hft]
        have a1 : ¬ ((kk : Int) = v) := by omega
        have a2 : ¬ ((u : Int) = v) := by omega
        simp [a1, a2]
      · rw [if_neg w]) 0), eu, Int.add_zero]
  refine ⟨t, kk, ht, by omega, ?_, ?_⟩
  · unfold okm
    refine decide_eq_true ⟨by omega, fun z => y0 (fun b hb => ?_)⟩
    rw [rmv_at]
    by_cases w : b = t
    · rw [if_pos w]
    · rw [if_neg w]
      have := z.2 b hb w
      unfold pv
      rw [hft] at this
      simp [this]
  · have ha2 : 2 ≤ hct n (pv f u) ∧ hct n (pv f u) ≤ 12 := by omega
    rw [hrm] at e1
    rw [emc, ec]
    rw [eS] at hat e0
    have hc12 : sumN kk (fun v => hco n W X K 0 (pv f v)) ≤ 12 * hco n W X K 0 (pv f u) := by
      have : (kk : Int) * hco n W X K 0 (pv f u) ≤ 12 * hco n W X K 0 (pv f u) := Int.mul_le_mul_of_nonneg_right (by omega) (by omega)
      omega
    revert hH hat e0 e1 ha2 hc12 hSn hy
    generalize sumN kk (fun v => hco n W X K 0 (pv f v)) = c
    generalize hco n W X K 0 (pv f u) = H
    generalize hco n W X K 0 (rmv (pv f u) t) = H'
    generalize hsq n W (rmv (pv f u) t) = S'
    generalize ysq n W (pv f u) t = y
    generalize hct n (pv f u) = a
    intro hH hat e0 e1 ha2 hc12 hSn hy
    have h12 : a = 2 ∨ a = 3 ∨ a = 4 ∨ a = 5 ∨ a = 6 ∨ a = 7 ∨ a = 8 ∨ a = 9 ∨ a = 10 ∨ a = 11 ∨ a = 12 := by omega
    rcases h12 with z | z | z | z | z | z | z | z | z | z | z <;> subst z <;> omega
theorem cst_w2 {n : Nat} {W X K f : Nat → Int} (hn : n ≤ 12) (hW : Wok W) (hr : RGS n f) : cst n W X K 2 f ≤ 10000 := by
  unfold cst
  rw [if_neg (by decide), cfold_2]
  exact maxN_le (by omega) (fun v _ => by
    unfold hco
    rw [if_neg (by decide), if_neg (by decide), if_pos rfl]
    exact (hwd_bd hn hW _).2)
/-- how many moves are left at most -/
def Pot (g c : Int) (k : Nat) : Prop := (g = 0 → c * 131 ^ k < 132 ^ k) ∧ (g ≠ 0 → c ≤ k)
theorem Pot.step {g c c' : Int} {k : Nat} (h : Pot g c k) (h1 : c' < c) (h2 : 0 ≤ c') (h3 : g = 0 → 132 * c' ≤ 131 * c) : ∃ k', k = k' + 1 ∧ Pot g c' k' := by
  obtain ⟨a, b⟩ := h
  cases k with
  | zero =>
    exfalso
    by_cases z : g = 0
    · have := a z
      rw [Int.pow_zero, Int.pow_zero, Int.mul_one] at this
      omega
    · have := b z
      omega
  | succ k =>
    refine ⟨k, rfl, fun z => ?_, fun z => ?_⟩
    · have h4 := a z
      have h5 := h3 z
      rw [Int.pow_succ, Int.pow_succ] at h4
      have hA : (0 : Int) ≤ 131 ^ k := Int.pow_nonneg (by omega)
      generalize (131 : Int) ^ k = A at *
      generalize (132 : Int) ^ k = B at *
      have h6 := Int.mul_le_mul_of_nonneg_right h5 hA
      rw [Int.mul_assoc, Int.mul_assoc] at h6
      have h7 : c * (A * 131) = 131 * (c * A) := by rw [← Int.mul_assoc, Int.mul_comm]
      omega
    · have := b z; omega
theorem pow_big : (13000000000000000 : Int) * 131 ^ 5000 < 132 ^ 5000 := by decide +kernel
theorem Pot.ini0 {c : Int} (h : c ≤ 13000000000000000) : Pot 0 c 5000 := by
  refine ⟨fun _ => ?_, fun z => absurd rfl z⟩
  have hA : (0 : Int) ≤ 131 ^ 5000 := Int.pow_nonneg (by omega)
  have hB := pow_big
  generalize (131 : Int) ^ 5000 = A at *
  generalize (132 : Int) ^ 5000 = B at *
  have := Int.mul_le_mul_of_nonneg_right h hA
  omega
theorem Pot.ini {g c : Int} (hg : g ≠ 0) (h : c ≤ 200000) : Pot g c 200000 := ⟨fun z => absurd z hg, fun _ => h⟩
theorem hct_lab {n k : Nat} {f : Nat → Int} (hl : ∀ i, i < n → 0 ≤ f i ∧ f i < k) : sumN k (fun u => hct n (pv f u)) = n := by
  unfold hct
  rw [sumN_comm]
  have e : sumN n (fun b => sumN k (fun u => if pv f u b then (1 : Int) else 0)) = sumN n (fun b => if (fun _ => true) b then (1 : Int) else 0) := sumN_congr (fun b hb => by
    have h1 := hl b hb
    have e2 : sumN k (fun u => if pv f u b then (1 : Int) else 0) = sumN k (fun u => if f b = (u : Int) then (1 : Int) else 0) := sumN_congr (fun u _ => by unfold pv; simp)
    rw [e2, sumN_pick h1.1 h1.2 (fun _ => 1)]; rfl)
  rw [e]
  exact hct_true n
theorem cst_200 {n : Nat} {W X K f : Nat → Int} {g : Int} (hn : n ≤ 12) (hW : Wok W) (hX : Xok X K) (sX : Sym n X) (sK : Sym n K) (hr : RGS n f) (hg : g = 1 ∨ g = 2 ∨ g = 3) : cst n W X K g f ≤ 200000 := by
  have hm0 := mx_nonneg f n
  rcases hg with z | z | z <;> subst z
  · unfold cst
    rw [cfold_s (by decide), if_neg (by decide), Int.zero_add]
    have hl : ∀ i, i < n → 0 ≤ f i ∧ f i < ((mx f n).toNat : Nat) := fun i hi => by
      have := hr i hi; have := lt_mx (g := f) hi; omega
    have h1 : ∀ u, u < (mx f n).toNat → 0 ≤ 10000 * hct n (pv f u) + (-1) * hco n W X K 1 (pv f u) := by
      intro u _
      have hb := hct_bd n (pv f u)
      unfold hco
      rw [if_neg (by decide), if_pos rfl]
      rcases hmd_in n W (pv f u) n with w | w
      · rw [if_pos w]; omega
      · rw [if_neg (by omega)]
        have h2 : 0 ≤ sumN n (fun b => (if pv f u b then 10000 else 0) + (-1) * (if pv f u b then W (12 * (hmd n W (pv f u) n).toNat + b) else 0)) := sumN_nonneg (fun b hb => by
          have := hW (12 * (hmd n W (pv f u) n).toNat + b) (by omega)
          by_cases y : pv f u b = true
          · simp only [y, if_true]; omega
          · simp [y])
        rw [sumN_add, sumN_mul, sumN_ct] at h2
        unfold hsum
        omega
    have h3 := sumN_nonneg h1
    rw [sumN_add, sumN_mul, sumN_mul, hct_lab hl] at h3
    omega
  · have := cst_w2 hn hW hr (X := X) (K := K)
    omega
  · unfold cst
    rw [cfold_s (by decide), if_pos rfl]
    have e := rqr_eq hn hX sX sK hr
    have e2 : sumN (mx f n).toNat (fun v => hco n W X K 3 (pv f v)) = sumN (mx f n).toNat (fun v => hqr n X K (pv f v)) := sumN_congr (fun v _ => by unfold hco; rw [if_neg (by decide), if_neg (by decide), if_neg (by decide)])
    rw [e2, ← e]
    have h1 : ∀ a, a < n → -12000 ≤ sumN n (fun b => if a < b then (if (K (12 * a + b) = 1 ↔ f a = f b) then 0 else X (12 * a + b)) else 0) ∧ sumN n (fun b => if a < b then (if (K (12 * a + b) = 1 ↔ f a = f b) then 0 else X (12 * a + b)) else 0) ≤ 12000 := by
      intro a ha
      have := sumN_bd (n := n) (F := fun b => if a < b then (if (K (12 * a + b) = 1 ↔ f a = f b) then 0 else X (12 * a + b)) else 0) (B := 1000) (fun b hb => by
        have := (hX (12 * a + b) (by omega)).1
        show -1000 ≤ (if a < b then (if (K (12 * a + b) = 1 ↔ f a = f b) then 0 else X (12 * a + b)) else 0) ∧ (if a < b then (if (K (12 * a + b) = 1 ↔ f a = f b) then 0 else X (12 * a + b)) else 0) ≤ 1000
        repeat' split
        all_goals omega)
      omega
    have h2 := sumN_bd (n := n) (F := fun a => sumN n (fun b => if a < b then (if (K (12 * a + b) = 1 ↔ f a = f b) then 0 else X (12 * a + b)) else 0)) (B := 12000) h1
    unfold rqr
    omega
