/-! partings counted and numbered -/
theorem won_bd : ∀ (t k : Nat), k + t ≤ 13 → 1 ≤ won t k ∧ won t k ≤ 14 ^ t := by
  intro t
  induction t with
  | zero => intro k _; exact ⟨by show (1 : Int) ≤ 1; omega, by show (1 : Int) ≤ 14 ^ 0; omega⟩
  | succ t ih =>
    intro k hk
    have h1 := ih k (by omega); have h2 := ih (k + 1) (by omega)
    show 1 ≤ (k : Int) * won t k + won t (k + 1) ∧ (k : Int) * won t k + won t (k + 1) ≤ 14 ^ (t + 1)
    have h3 : 0 ≤ (k : Int) * won t k := Int.mul_nonneg (by omega) (by omega)
    have h4 : (k : Int) * won t k ≤ 13 * 14 ^ t := by
      calc (k : Int) * won t k ≤ 13 * won t k := Int.mul_le_mul_of_nonneg_right (by omega) (by omega)
        _ ≤ 13 * 14 ^ t := by omega
    rw [Int.pow_succ]
    omega
theorem p14 {t : Nat} (ht : t ≤ 12) : (14 : Int) ^ t ≤ 56693912375296 := by
  have : t = 0 ∨ t = 1 ∨ t = 2 ∨ t = 3 ∨ t = 4 ∨ t = 5 ∨ t = 6 ∨ t = 7 ∨ t = 8 ∨ t = 9 ∨ t = 10 ∨ t = 11 ∨ t = 12 := by omega
  rcases this with rfl | rfl | rfl | rfl | rfl | rfl | rfl | rfl | rfl | rfl | rfl | rfl | rfl <;> decide
theorem won_b {t k : Nat} (h : k + t ≤ 13) (ht : t ≤ 12) : 1 ≤ won t k ∧ won t k ≤ 56693912375296 := by
  have := won_bd t k h; have := p14 ht; omega
theorem waysOn_ok (h : Hp) : ∀ (N t k : Nat), t < N → k + t ≤ 13 → t ≤ 12 → fX12_waysOn N t k h = some (won t k, h) := by
  intro N
  induction N with
  | zero => intro t k ht; omega
  | succ N ih =>
    intro t k ht hk h12
    cases t with
    | zero => rw [fX12_waysOn, if_pos (by omega)]; rfl
    | succ t =>
      have h1 := won_b (t := t) (k := k) (by omega) (by omega); have h2 := won_b (t := t + 1) (k := k) hk (by omega)
      rw [fX12_waysOn, if_neg (by omega), c32_n (by omega) (by omega), ob, show ((t + 1 : Nat) : Int) - 1 = (t : Int) by omega, ih t k (by omega) (by omega) (by omega), ob, c32_n (by omega) (by omega), ob, show (k : Int) + 1 = ((k + 1 : Nat) : Int) from rfl]
      simp only []
      have e : won (t + 1) k = (k : Int) * won t k + won t (k + 1) := rfl
      rw [ih t (k + 1) (by omega) (by omega) (by omega), ob, c64_n (by show -9223372036854775808 ≤ (k : Int) * won t k + won t (k + 1); omega) (by show (k : Int) * won t k + won t (k + 1) ≤ 9223372036854775807; omega), ob]
      rfl
/-- partings of n things with k heaps -/
def stg : Nat → Nat → Int
  | 0, 0 => 1
  | 0, _ + 1 => 0
  | _ + 1, 0 => 0
  | n + 1, k + 1 => ((k + 1 : Nat) : Int) * stg n (k + 1) + stg n k
theorem stg_bd : ∀ (n k : Nat), k ≤ 13 → 0 ≤ stg n k ∧ stg n k ≤ 14 ^ n := by
  intro n
  induction n with
  | zero => intro k _; cases k with
    | zero => exact ⟨by decide, by decide⟩
    | succ k => exact ⟨by show (0 : Int) ≤ 0; omega, by show (0 : Int) ≤ 14 ^ 0; decide⟩
  | succ n ih =>
    intro k hk
    cases k with
    | zero => exact ⟨by show (0 : Int) ≤ 0; omega, by show (0 : Int) ≤ 14 ^ (n + 1); exact Int.le_of_lt (Int.pow_pos (by decide))⟩
    | succ k =>
      have h1 := ih (k + 1) hk; have h2 := ih k (by omega)
      show 0 ≤ ((k + 1 : Nat) : Int) * stg n (k + 1) + stg n k ∧ ((k + 1 : Nat) : Int) * stg n (k + 1) + stg n k ≤ 14 ^ (n + 1)
      have h3 : 0 ≤ ((k + 1 : Nat) : Int) * stg n (k + 1) := Int.mul_nonneg (by omega) (by omega)
      have h4 : ((k + 1 : Nat) : Int) * stg n (k + 1) ≤ 13 * 14 ^ n := by
        calc ((k + 1 : Nat) : Int) * stg n (k + 1) ≤ 13 * stg n (k + 1) := Int.mul_le_mul_of_nonneg_right (by omega) (by omega)
          _ ≤ 13 * 14 ^ n := by omega
      rw [Int.pow_succ]
      omega
theorem stg_b {n k : Nat} (hn : n ≤ 12) (hk : k ≤ 13) : 0 ≤ stg n k ∧ stg n k ≤ 56693912375296 := by
  have := stg_bd n k hk; have := p14 hn; omega
theorem stg_big : ∀ (n k : Nat), n < k → stg n k = 0 := by
  intro n
  induction n with
  | zero => intro k hk; cases k with
    | zero => omega
    | succ k => rfl
  | succ n ih =>
    intro k hk
    cases k with
    | zero => omega
    | succ k =>
      show ((k + 1 : Nat) : Int) * stg n (k + 1) + stg n k = 0
      rw [ih (k + 1) (by omega), ih k (by omega)]; omega
theorem stirling_ok (h : Hp) : ∀ (N n k : Nat), n < N → n ≤ 12 → k ≤ 12 → fX12_stirling N n k h = some (stg n k, h) := by
  intro N
  induction N with
  | zero => intro n k hn; omega
  | succ N ih =>
    intro n k hn h12 hk
    cases n with
    | zero =>
      rw [fX12_stirling, if_pos (by omega), fX12_stirling_8]
      cases k with
      | zero => rw [if_pos rfl, fX12_stirling_18]; rfl
      | succ k => rw [if_neg (by omega), fX12_stirling_18]; rfl
    | succ n =>
      cases k with
      | zero => rw [fX12_stirling, if_neg (by omega), if_pos (by omega), fX12_stirling_8, if_neg (by omega), fX12_stirling_18]; rfl
      | succ k =>
        have h2 := stg_b (n := n + 1) (k := k + 1) h12 (by omega)
        have e : stg (n + 1) (k + 1) = ((k + 1 : Nat) : Int) * stg n (k + 1) + stg n k := rfl
        rw [fX12_stirling, if_neg (by omega), if_neg (by omega), c32_n (by omega) (by omega), ob, show ((n + 1 : Nat) : Int) - 1 = (n : Int) by omega, ih n (k + 1) (by omega) (by omega) (by omega), ob, c32_n (by omega) (by omega), ob, show ((k + 1 : Nat) : Int) - 1 = (k : Int) by omega]
        simp only []
        rw [ih n k (by omega) (by omega) (by omega), ob, c64_n (by show -9223372036854775808 ≤ ((k + 1 : Nat) : Int) * stg n (k + 1) + stg n k; omega) (by show ((k + 1 : Nat) : Int) * stg n (k + 1) + stg n k ≤ 9223372036854775807; omega), ob]
        rfl
/-- all partings, by their heaps or by how names go on -/
theorem bell_eq : ∀ n : Nat, n < 13 → sumN (n + 1) (fun j => stg n j) = won n 0 := by
  have key : ∀ (n t : Nat), sumN (n + 1) (fun j => stg n j * won t j) = won (t + n) 0 := by
    intro n
    induction n with
    | zero => intro t; show 0 + stg 0 0 * won t 0 = won t 0; show 0 + 1 * won t 0 = won t 0; omega
    | succ n ih =>
      intro t
      rw [show t + (n + 1) = (t + 1) + n by omega, ← ih (t + 1)]
      -- shift
      have sh : ∀ m : Nat, sumN (m + 1) (fun j => stg (n + 1) j * won t j) = sumN m (fun j => (((j + 1 : Nat) : Int) * stg n (j + 1) + stg n j) * won t (j + 1)) := by
        intro m
        induction m with
        | zero => show 0 + stg (n + 1) 0 * won t 0 = 0; show 0 + 0 * won t 0 = 0; omega
        | succ m ihm =>
          have e1 : sumN (m + 1 + 1) (fun j => stg (n + 1) j * won t j) = sumN (m + 1) (fun j => stg (n + 1) j * won t j) + stg (n + 1) (m + 1) * won t (m + 1) := rfl
          have e2 : sumN (m + 1) (fun j => (((j + 1 : Nat) : Int) * stg n (j + 1) + stg n j) * won t (j + 1)) = sumN m (fun j => (((j + 1 : Nat) : Int) * stg n (j + 1) + stg n j) * won t (j + 1)) + (((m + 1 : Nat) : Int) * stg n (m + 1) + stg n m) * won t (m + 1) := rfl
          rw [e1, e2, ihm]; rfl
      rw [sh (n + 1)]
      have sp : ∀ m : Nat, sumN m (fun j => (((j + 1 : Nat) : Int) * stg n (j + 1) + stg n j) * won t (j + 1)) = sumN m (fun j => ((j + 1 : Nat) : Int) * stg n (j + 1) * won t (j + 1)) + sumN m (fun j => stg n j * won t (j + 1)) := by
        intro m
        rw [← sumN_add]
        exact sumN_congr (fun j _ => Int.add_mul _ _ _)
      rw [sp]
      have s2 : ∀ m : Nat, sumN m (fun j => stg n j * won (t + 1) j) = sumN m (fun j => (j : Int) * stg n j * won t j) + sumN m (fun j => stg n j * won t (j + 1)) := by
        intro m
        rw [← sumN_add]
        refine sumN_congr (fun j _ => ?_)
        show stg n j * ((j : Int) * won t j + won t (j + 1)) = _
        rw [Int.mul_add, ← Int.mul_assoc, Int.mul_comm (stg n j) (j : Int)]
      rw [s2]
      have s3 : ∀ m : Nat, sumN (m + 1) (fun j => (j : Int) * stg n j * won t j) = sumN m (fun j => ((j + 1 : Nat) : Int) * stg n (j + 1) * won t (j + 1)) := by
        intro m
        induction m with
        | zero => show 0 + ((0 : Nat) : Int) * stg n 0 * won t 0 = 0; simp
        | succ m ihm =>
          have e1 : sumN (m + 1 + 1) (fun j => (j : Int) * stg n j * won t j) = sumN (m + 1) (fun j => (j : Int) * stg n j * won t j) + ((m + 1 : Nat) : Int) * stg n (m + 1) * won t (m + 1) := rfl
          have e2 : sumN (m + 1) (fun j => ((j + 1 : Nat) : Int) * stg n (j + 1) * won t (j + 1)) = sumN m (fun j => ((j + 1 : Nat) : Int) * stg n (j + 1) * won t (j + 1)) + ((m + 1 : Nat) : Int) * stg n (m + 1) * won t (m + 1) := rfl
          rw [e1, e2, ihm]
      have e4 : sumN (n + 1 + 1) (fun j => (j : Int) * stg n j * won t j) = sumN (n + 1) (fun j => (j : Int) * stg n j * won t j) + ((n + 1 : Nat) : Int) * stg n (n + 1) * won t (n + 1) := rfl
      have z := stg_big n (n + 1) (by omega)
      have e5 := s3 (n + 1)
      rw [e4, z] at e5
      rw [← e5]
      simp
  intro n _
  have := key n 0
  rw [Nat.zero_add] at this
  rw [← this]
  exact sumN_congr (fun j _ => by show stg n j = stg n j * 1; omega)
