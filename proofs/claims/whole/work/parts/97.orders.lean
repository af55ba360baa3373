/-! sums over orders -/
def rmv (p : Nat → Bool) (t : Nat) : Nat → Bool := fun j => p j && decide (j ≠ t)
/-- the sum of a number over all orders of d things of a set -/
def OS (n : Nat) : Nat → (List Nat → Int) → (Nat → Bool) → Int
  | 0, φ, _ => φ []
  | d + 1, φ, p => sumN n (fun t => if p t then OS n d (fun l => φ (t :: l)) (rmv p t) else 0)
def fcl : Nat → Int
  | 0 => 1
  | d + 1 => ((d : Int) + 1) * fcl d
theorem sumN_mul {n : Nat} (c : Int) (F : Nat → Int) : sumN n (fun i => c * F i) = c * sumN n F := by
  induction n with
  | zero => simp [sumN]
  | succ n ih => simp only [sumN]; rw [ih, Int.mul_add]
theorem sumN_ct {n : Nat} (p : Nat → Bool) (c : Int) : sumN n (fun t => if p t then c else 0) = hct n p * c := by
  induction n with
  | zero => simp [sumN, hct]
  | succ n ih =>
    have e : hct (n + 1) p = hct n p + (if p n then 1 else 0) := rfl
    simp only [sumN]
    rw [ih, e, Int.add_mul]
    split <;> simp
theorem rmv_at (p : Nat → Bool) (t j : Nat) : rmv p t j = if j = t then false else p j := by
  unfold rmv
  by_cases e : j = t
  · simp [e]
  · simp [e]
theorem hct_rmv {n : Nat} {p : Nat → Bool} {t : Nat} (ht : t < n) (hp : p t = true) : hct n (rmv p t) = hct n p - 1 := by
  unfold hct
  rw [sumN_one (F := fun a => if rmv p t a then (1 : Int) else 0) (G := fun a => if p a then (1 : Int) else 0) ht (fun i _ hi => by rw [rmv_at, if_neg hi])]
  rw [rmv_at, if_pos rfl, hp]
  simp; omega
theorem hct_rmv_no {n : Nat} {p : Nat → Bool} {t : Nat} (hp : p t = false) : hct n (rmv p t) = hct n p := by
  unfold hct
  refine sumN_congr (fun i _ => ?_)
  rw [rmv_at]
  by_cases e : i = t
  · subst e; rw [if_pos rfl, hp]
  · rw [if_neg e]
/-- a list of d things of a set, each once -/
def LI (n d : Nat) (p : Nat → Bool) (l : List Nat) : Prop := l.length = d ∧ l.Nodup ∧ ∀ t, t ∈ l → t < n ∧ p t = true
theorem LI.cons {n d : Nat} {p : Nat → Bool} {t : Nat} {l : List Nat} (ht : t < n) (hp : p t = true) (h : LI n d (rmv p t) l) : LI n (d + 1) p (t :: l) := by
  obtain ⟨h1, h2, h3⟩ := h
  refine ⟨by simp [h1], List.nodup_cons.mpr ⟨fun z => ?_, h2⟩, fun j hj => ?_⟩
  · have := (h3 t z).2; rw [rmv_at, if_pos rfl] at this; exact absurd this (by decide)
  · rcases List.mem_cons.mp hj with z | z
    · subst z; exact ⟨ht, hp⟩
    · have := h3 j z
      rw [rmv_at] at this
      refine ⟨this.1, ?_⟩
      by_cases e : j = t
      · rw [e]; exact hp
      · rw [if_neg e] at this; exact this.2
theorem OS_congr {n : Nat} : ∀ (d : Nat) {φ ψ : List Nat → Int} {p q : Nat → Bool}, (∀ t, t < n → p t = q t) → (∀ l, LI n d p l → φ l = ψ l) → OS n d φ p = OS n d ψ q := by
  intro d
  induction d with
  | zero => intro φ ψ p q _ h; exact h [] ⟨rfl, List.nodup_nil, fun t ht => by cases ht⟩
  | succ d ih =>
    intro φ ψ p q hp h
    refine sumN_congr (fun t ht => ?_)
    rw [← hp t ht]
    by_cases e : p t = true
    · rw [if_pos e, if_pos e]
      refine ih (fun j hj => ?_) (fun l hl => h _ (hl.cons ht e))
      rw [rmv_at, rmv_at, hp j hj]
    · rw [if_neg e, if_neg e]
theorem OS_add {n : Nat} : ∀ (d : Nat) (φ ψ : List Nat → Int) (p : Nat → Bool), OS n d (fun l => φ l + ψ l) p = OS n d φ p + OS n d ψ p := by
  intro d
  induction d with
  | zero => intro φ ψ p; rfl
  | succ d ih =>
    intro φ ψ p
    simp only [OS]
    rw [← sumN_add]
    refine sumN_congr (fun t _ => ?_)
    split
    · exact ih _ _ _
    · rfl
theorem OS_const {n : Nat} : ∀ (d : Nat) (c : Int) (p : Nat → Bool), hct n p = d → OS n d (fun _ => c) p = fcl d * c := by
  intro d
  induction d with
  | zero => intro c p _; show c = 1 * c; omega
  | succ d ih =>
    intro c p hp
    simp only [OS, fcl]
    rw [sumN_congr (G := fun t => if p t then fcl d * c else 0) (fun t ht => by
      by_cases e : p t = true
      · rw [if_pos e, if_pos e, ih c _ (by rw [hct_rmv ht e, hp]; omega)]
      · rw [if_neg e, if_neg e]), sumN_ct, hp, Int.mul_assoc]
    congr 1
/-- orders of a set, of which only a part is looked at -/
theorem OS_filter {n : Nat} (r : Nat → Bool) : ∀ (m : Nat) (k : Nat) (φ : List Nat → Int) (p : Nat → Bool), hct n p = m → hct n (fun t => p t && r t) = k → fcl k * OS n m (fun l => φ (l.filter r)) p = fcl m * OS n k φ (fun t => p t && r t) := by
  intro m
  induction m with
  | zero =>
    intro k φ p hp hk
    have hz : ∀ t, t < n → p t = false := fun t ht => by
      cases e : p t with
      | false => rfl
      | true => have := hct_pos ht e; omega
    have hk0 : hct n (fun t => p t && r t) = 0 := sumN_zero (fun i hi => by simp [hz i hi])
    have : k = 0 := by omega
    subst this
    rfl
  | succ m ih =>
    intro k φ p hp hk
    have e1 : ∀ t, t < n → fcl k * (if p t then OS n m (fun l => φ ((t :: l).filter r)) (rmv p t) else 0) = (fcl m * k) * (if (p t && r t) then OS n (k - 1) (fun l => φ (t :: l)) (rmv (fun t => p t && r t) t) else 0) + (if (p t && !r t) then fcl m * OS n k φ (fun t => p t && r t) else 0) := by
      intro t ht
      by_cases e : p t = true
      · by_cases er : r t = true
        · have hkp : 1 ≤ hct n (fun t => p t && r t) := hct_pos (j := t) ht (by simp [e, er])
          obtain ⟨k', rfl⟩ : ∃ k', k = k' + 1 := ⟨k - 1, by omega⟩
          have hr1 : hct n (fun j => rmv p t j && r j) = k' := by
            have h1 : hct n (fun j => rmv p t j && r j) = hct n (rmv (fun j => p j && r j) t) := sumN_congr (fun i _ => by
              simp only [rmv_at]
              by_cases w : i = t
              · simp [w]
              · simp [w])
            rw [h1, hct_rmv ht (by simp [e, er])]; omega
          have h2 := ih k' (fun l => φ (t :: l)) (rmv p t) (by rw [hct_rmv ht e]; omega) hr1
          have h3 : OS n m (fun l => φ ((t :: l).filter r)) (rmv p t) = OS n m (fun l => φ (t :: l.filter r)) (rmv p t) := OS_congr m (fun _ _ => rfl) (fun l _ => by simp [List.filter_cons, er])
          have h4 : OS n k' (fun l => φ (t :: l)) (fun j => rmv p t j && r j) = OS n k' (fun l => φ (t :: l)) (rmv (fun t => p t && r t) t) := OS_congr k' (fun i _ => by
              rw [rmv_at, rmv_at]
              by_cases w : i = t
              · simp [w]
              · simp [w]) (fun _ _ => rfl)
          rw [h4] at h2
          rw [if_pos e, if_pos (by simp [e, er]), if_neg (by simp [er]), h3, Int.add_zero]
          simp only [fcl, Nat.add_sub_cancel]
          rw [Int.mul_assoc, h2, ← Int.mul_assoc, Int.mul_comm ((k' : Int) + 1) (fcl m)]
          rfl
        · have er' : r t = false := by simpa using er
          have hr1 : hct n (fun j => rmv p t j && r j) = k := by
            rw [← hk]
            refine sumN_congr (fun i _ => ?_)
            simp only [rmv_at]
            by_cases w : i = t
            · simp [w, er']
            · simp [w]
          have h2 := ih k φ (rmv p t) (by rw [hct_rmv ht e]; omega) hr1
          have h3 : OS n m (fun l => φ ((t :: l).filter r)) (rmv p t) = OS n m (fun l => φ (l.filter r)) (rmv p t) := OS_congr m (fun _ _ => rfl) (fun l _ => by simp [List.filter_cons, er'])
          have h4 : OS n k φ (fun j => rmv p t j && r j) = OS n k φ (fun t => p t && r t) := OS_congr k (fun i _ => by
              rw [rmv_at]
              by_cases w : i = t
              · simp [w, er']
              · simp [w]) (fun _ _ => rfl)
          rw [h4] at h2
          rw [if_pos e, if_neg (by simp [er']), if_pos (by simp [e, er']), h3, h2, Int.mul_zero, Int.zero_add]
      · have e' : p t = false := by simpa using e
        rw [if_neg e, if_neg (by simp [e']), if_neg (by simp [e'])]; simp
    simp only [OS]
    rw [← sumN_mul, sumN_congr e1, sumN_add, sumN_mul, sumN_ct (fun t => p t && !r t)]
    have hs : hct n (fun t => p t && !r t) = (m : Int) + 1 - k := by
      have : hct n p = hct n (fun t => p t && r t) + hct n (fun t => p t && !r t) := by
        unfold hct
        rw [← sumN_add]
        refine sumN_congr (fun i _ => ?_)
        cases h1 : p i <;> cases h2 : r i <;> simp [h1, h2]
      omega
    rw [hs]
    have hk2 : (k : Int) * sumN n (fun t => if (p t && r t) then OS n (k - 1) (fun l => φ (t :: l)) (rmv (fun t => p t && r t) t) else 0) = k * OS n k φ (fun t => p t && r t) := by
      cases k with
      | zero => simp
      | succ k => rfl
    rw [Int.mul_assoc, hk2]
    simp only [fcl]
    generalize OS n k φ (fun t => p t && r t) = Q
    generalize fcl m = A
    have a1 : A * ((k : Int) * Q) = (k : Int) * (A * Q) := by rw [← Int.mul_assoc, Int.mul_comm A, Int.mul_assoc]
    rw [a1, ← Int.add_mul, Int.mul_assoc]
    congr 1
    omega
