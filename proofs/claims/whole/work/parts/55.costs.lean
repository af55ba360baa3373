/-! costs of heaps, as the class tells them -/
section
variable {h : Hp} {q : Nat} {n m k : Int} {P W X K f : Nat → Int}
theorem wayQ (S : isSq h q n m P W X K k f) {i j : Nat} (hi : i < 12) (hj : j < 12) : fX7_wayOf q i j h = some (W (12 * i + j), h) := by
  obtain ⟨s0, s1, s2, s3, s4, s5⟩ := S
  unfold fX7_wayOf
  rw [gR 2 s0 rfl, ob, ald_of (12 * i + j) s2 (by omega) (by omega), ob]
theorem weightQ (S : isSq h q n m P W X K k f) {i j : Nat} (hi : i < 12) (hj : j < 12) : fX7_weightOf q i j h = some (X (12 * i + j), h) := by
  obtain ⟨s0, s1, s2, s3, s4, s5⟩ := S
  unfold fX7_weightOf
  rw [gR 3 s0 rfl, ob, ald_of (12 * i + j) s3 (by omega) (by omega), ob]
theorem likeQ (S : isSq h q n m P W X K k f) {i j : Nat} (hi : i < 12) (hj : j < 12) : fX7_likeOf q i j h = some (K (12 * i + j), h) := by
  obtain ⟨s0, s1, s2, s3, s4, s5⟩ := S
  unfold fX7_likeOf
  rw [gR 4 s0 rfl, ob, ald_of (12 * i + j) s4 (by omega) (by omega), ob]
end
def hsum (n : Nat) (W : Nat → Int) (p : Nat → Bool) (t : Nat) : Int := sumN n (fun b => if p b then W (12 * t + b) else 0)
def hrch (W : Nat → Int) (p : Nat → Bool) (t b : Nat) : Int := maxN b (fun j => if p j then W (12 * t + j) else 0)
def hwd (n : Nat) (W : Nat → Int) (p : Nat → Bool) : Int := maxN n (fun a => if p a then hrch W p a a else 0)
def hsq1 (W : Nat → Int) (p : Nat → Bool) (a : Nat) : Int := sumN a (fun b => if p b then W (12 * a + b) * W (12 * a + b) else 0)
def hsq (n : Nat) (W : Nat → Int) (p : Nat → Bool) : Int := sumN n (fun a => if p a then hsq1 W p a else 0)
def hct (n : Nat) (p : Nat → Bool) : Int := sumN n (fun a => if p a then 1 else 0)
def qrl (X K : Nat → Int) (i : Nat) : Int := if K i = 1 then -X i else X i
def hqr1 (X K : Nat → Int) (p : Nat → Bool) (a : Nat) : Int := sumN a (fun b => if p b then qrl X K (12 * a + b) else 0)
def hqr (n : Nat) (X K : Nat → Int) (p : Nat → Bool) : Int := sumN n (fun a => if p a then hqr1 X K p a else 0)
def hmd (n : Nat) (W : Nat → Int) (p : Nat → Bool) : Nat → Int
  | 0 => -1
  | i + 1 => if p i then (if hmd n W p i = -1 ∨ hsum n W p i < hsum n W p (hmd n W p i).toNat then i else hmd n W p i) else hmd n W p i
def hco (n : Nat) (W X K : Nat → Int) (g : Int) (p : Nat → Bool) : Int :=
  if g = 0 then (if hct n p = 0 then 0 else hsq n W p * 27720 / hct n p) else if g = 1 then (if hmd n W p n = -1 then 0 else hsum n W p (hmd n W p n).toNat) else if g = 2 then hwd n W p else hqr n X K p
def grd (n : Nat) (X K : Nat → Int) : Int := sumN n (fun a => sumN a (fun b => K (12 * a + b) * X (12 * a + b)))
theorem hmd_in (n : Nat) (W : Nat → Int) (p : Nat → Bool) (i : Nat) : hmd n W p i = -1 ∨ (0 ≤ hmd n W p i ∧ hmd n W p i < i ∧ p (hmd n W p i).toNat = true) := by
  induction i with
  | zero => exact Or.inl rfl
  | succ i ih =>
    simp only [hmd]
    by_cases e : p i
    · rw [if_pos e]
      split
      · exact Or.inr ⟨by omega, by omega, by simpa using e⟩
      · rcases ih with z | z
        · exact Or.inl z
        · exact Or.inr ⟨z.1, by omega, z.2.2⟩
    · rw [if_neg e]
      rcases ih with z | z
      · exact Or.inl z
      · exact Or.inr ⟨z.1, by omega, z.2.2⟩
def Wok (W : Nat → Int) : Prop := ∀ i, i < 144 → 0 ≤ W i ∧ W i ≤ 10000
def Xok (X K : Nat → Int) : Prop := ∀ i, i < 144 → (0 ≤ X i ∧ X i ≤ 1000) ∧ (K i = 0 ∨ K i = 1)
theorem hsum_bd {n : Nat} {W : Nat → Int} (hn : n ≤ 12) (hW : Wok W) (p : Nat → Bool) {t : Nat} (ht : t < 12) : 0 ≤ hsum n W p t ∧ hsum n W p t ≤ 120000 := by
  have h1 : 0 ≤ hsum n W p t := sumN_nonneg (fun i hi => by split; exact (hW _ (by omega)).1; omega)
  have h2 : hsum n W p t ≤ n * 10000 := sumN_le (fun i hi => by split; exact (hW _ (by omega)).2; omega)
  omega
theorem hrch_bd {W : Nat → Int} (hW : Wok W) (p : Nat → Bool) {t b : Nat} (ht : t < 12) (hb : b ≤ 12) : 0 ≤ hrch W p t b ∧ hrch W p t b ≤ 10000 :=
  ⟨maxN_nonneg _ _, maxN_le (by omega) (fun i hi => by split; exact (hW _ (by omega)).2; omega)⟩
theorem hwd_bd {n : Nat} {W : Nat → Int} (hn : n ≤ 12) (hW : Wok W) (p : Nat → Bool) : 0 ≤ hwd n W p ∧ hwd n W p ≤ 10000 :=
  ⟨maxN_nonneg _ _, maxN_le (by omega) (fun i hi => by split; exact (hrch_bd hW p (by omega) (by omega)).2; omega)⟩
theorem sq_bd {v : Int} (h : 0 ≤ v ∧ v ≤ 10000) : 0 ≤ v * v ∧ v * v ≤ 100000000 :=
  ⟨Int.mul_nonneg h.1 h.1, by calc v * v ≤ 10000 * 10000 := Int.mul_le_mul h.2 h.2 h.1 (by omega)
    _ = 100000000 := by omega⟩
theorem hsq1_bd {W : Nat → Int} (hW : Wok W) (p : Nat → Bool) {a : Nat} (ha : a < 12) : 0 ≤ hsq1 W p a ∧ hsq1 W p a ≤ 1200000000 := by
  have h1 : 0 ≤ hsq1 W p a := sumN_nonneg (fun i hi => by split; exact (sq_bd (hW _ (by omega))).1; omega)
  have h2 : hsq1 W p a ≤ a * 100000000 := sumN_le (fun i hi => by split; exact (sq_bd (hW _ (by omega))).2; omega)
  omega
theorem hsq_bd {n : Nat} {W : Nat → Int} (hn : n ≤ 12) (hW : Wok W) (p : Nat → Bool) : 0 ≤ hsq n W p ∧ hsq n W p ≤ 14400000000 := by
  have h1 : 0 ≤ hsq n W p := sumN_nonneg (fun i hi => by split; exact (hsq1_bd hW p (by omega)).1; omega)
  have h2 : hsq n W p ≤ n * 1200000000 := sumN_le (fun i hi => by split; exact (hsq1_bd hW p (by omega)).2; omega)
  omega
theorem hct_bd (n : Nat) (p : Nat → Bool) : 0 ≤ hct n p ∧ hct n p ≤ n := sumN_01 (fun i _ => by split <;> omega)
theorem qrl_bd {X K : Nat → Int} (hX : Xok X K) {i : Nat} (hi : i < 144) : -1000 ≤ qrl X K i ∧ qrl X K i ≤ 1000 := by
  have := (hX i hi).1; unfold qrl; split <;> omega
theorem hqr1_bd {X K : Nat → Int} (hX : Xok X K) (p : Nat → Bool) {a : Nat} (ha : a < 12) : -12000 ≤ hqr1 X K p a ∧ hqr1 X K p a ≤ 12000 := by
  have h1 := sumN_bd (n := a) (F := fun b => if p b then qrl X K (12 * a + b) else 0) (B := 1000) (fun i hi => by
    show -1000 ≤ (if p i then qrl X K (12 * a + i) else 0) ∧ (if p i then qrl X K (12 * a + i) else 0) ≤ 1000
    split; exact qrl_bd hX (by omega); omega)
  unfold hqr1; omega
theorem hqr_bd {n : Nat} {X K : Nat → Int} (hn : n ≤ 12) (hX : Xok X K) (p : Nat → Bool) : -144000 ≤ hqr n X K p ∧ hqr n X K p ≤ 144000 := by
  have h1 := sumN_bd (n := n) (F := fun a => if p a then hqr1 X K p a else 0) (B := 12000) (fun i hi => by
    show -12000 ≤ (if p i then hqr1 X K p i else 0) ∧ (if p i then hqr1 X K p i else 0) ≤ 12000
    split; exact hqr1_bd hX p (by omega); omega)
  unfold hqr; omega
theorem kx_bd {X K : Nat → Int} (hX : Xok X K) {i : Nat} (hi : i < 144) : 0 ≤ K i * X i ∧ K i * X i ≤ 1000 := by
  obtain ⟨h1, h2 | h2⟩ := hX i hi <;> rw [h2] <;> omega
theorem hco_bd {n : Nat} {W X K : Nat → Int} (hn : n ≤ 12) (hW : Wok W) (hX : Xok X K) (g : Int) (p : Nat → Bool) : -1000000000000000 ≤ hco n W X K g p ∧ hco n W X K g p ≤ 1000000000000000 := by
  unfold hco
  split
  · split
    · omega
    · have h1 := hsq_bd hn hW p; have h2 := hct_bd n p
      have h3 : 0 ≤ hsq n W p * 27720 / hct n p := Int.ediv_nonneg (by omega) (by omega)
      have h4 : hsq n W p * 27720 / hct n p ≤ hsq n W p * 27720 := Int.ediv_le_self _ (by omega)
      omega
  · split
    · split
      · omega
      · next hm =>
        have := hmd_in n W p n
        have := hsum_bd hn hW p (t := (hmd n W p n).toNat) (by omega)
        omega
    · split
      · have := hwd_bd hn hW p; omega
      · have := hqr_bd hn hX p; omega
theorem lDiv_n {a b : Int} (ha : 0 ≤ a ∧ a ≤ 9223372036854775807) (hb : 0 < b ∧ b ≤ 9223372036854775807) : lDiv a b = a / b := by
  unfold lDiv
  have e1 : (Int64.ofInt a).toInt = a := by
    rw [Int64.toInt_ofInt]; exact Int.bmod_eq_of_le (by show -(18446744073709551616 / 2) ≤ a; omega) (by show a < (18446744073709551616 + 1) / 2; omega)
  have e2 : (Int64.ofInt b).toInt = b := by
    rw [Int64.toInt_ofInt]; exact Int.bmod_eq_of_le (by show -(18446744073709551616 / 2) ≤ b; omega) (by show b < (18446744073709551616 + 1) / 2; omega)
  rw [Int64.toInt_div, e1, e2, Int.tdiv_eq_ediv_of_nonneg ha.1]
  have h3 : 0 ≤ a / b := Int.ediv_nonneg ha.1 (by omega)
  have h4 : a / b ≤ a := Int.ediv_le_self _ ha.1
  exact Int.bmod_eq_of_le (by show -(18446744073709551616 / 2) ≤ a / b; omega) (by show a / b < (18446744073709551616 + 1) / 2; omega)
