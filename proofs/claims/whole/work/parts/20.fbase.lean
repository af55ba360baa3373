/-! pure part: rows about the abstract heap and its numbers -/
theorem ob {α β : Type} (a : α) (f : α → Option β) : (some a).bind f = f a := rfl
theorem hput_at (h : Hp) (q : Nat) (c : AC) (k : Nat) : (hput h q c).2 k = if k = q then some c else h.2 k := rfl
theorem hput_1 (h : Hp) (q : Nat) (c : AC) : (hput h q c).1 = h.1 := rfl
theorem hput_hput (h : Hp) (q : Nat) (c c' : AC) : hput (hput h q c) q c' = hput h q c' := by
  unfold hput; congr 1; funext k; by_cases e : k = q <;> simp [e]
theorem hput_self {h : Hp} {q : Nat} {c : AC} (e : h.2 q = some c) : hput h q c = h := by
  obtain ⟨a, b⟩ := h
  unfold hput; congr 1; funext k
  by_cases z : k = q
  · subst z; simp; exact e.symm
  · simp [z]
theorem hput_comm (h : Hp) {q q' : Nat} (c c' : AC) (hq : q ≠ q') : hput (hput h q c) q' c' = hput (hput h q' c') q c := by
  unfold hput; congr 1; funext k
  by_cases e : k = q
  · subst e; simp [hq]
  · simp [e]
theorem c32_n {x : Int} (h1 : -2147483648 ≤ x) (h2 : x ≤ 2147483647) : c32 x = some () := if_pos ⟨h1, h2⟩
theorem c64_n {x : Int} (h1 : -9223372036854775808 ≤ x) (h2 : x ≤ 9223372036854775807) : c64 x = some () := if_pos ⟨h1, h2⟩
theorem ald_of {h : Hp} {kd q m : Nat} {F : Nat → Int} {i : Int} (j : Nat) (e : h.2 q = some (arr kd m F)) (hi : i = (j : Int)) (hj : j < m) : ald h kd q i = some (F j) := by
  subst hi; unfold ald; rw [e]; simp only [Int.toNat_natCast]; rw [if_pos ⟨trivial, by omega, by omega⟩]
theorem ast_of {h : Hp} {kd q m : Nat} {F : Nat → Int} {i v : Int} (j : Nat) (e : h.2 q = some (arr kd m F)) (hi : i = (j : Int)) (hj : j < m) : ast h kd q i v = some (hput h q (arr kd m (ups F j v))) := by
  subst hi; unfold ast; rw [e]; simp only [Int.toNat_natCast]; rw [if_pos ⟨trivial, by omega, by omega⟩]
theorem aln_of {h : Hp} {kd q m : Nat} {F : Nat → Int} (e : h.2 q = some (arr kd m F)) : aln h kd q = some (m : Int) := by
  unfold aln; rw [e]; simp
theorem rld_of {h : Hp} {ci q m : Nat} {F : Nat → Nat} {i : Int} (j : Nat) (e : h.2 q = some (rar ci m F)) (hi : i = (j : Int)) (hj : j < m) : rld h ci q i = some (F j) := by
  subst hi; unfold rld; rw [e]; simp only [Int.toNat_natCast]; rw [if_pos ⟨trivial, by omega, by omega⟩]
theorem gI {h : Hp} {ci q : Nat} {fs : List AV} (k : Nat) {z : Int} (e : h.2 q = some (obj ci fs)) (ek : fs[k]? = some (vi z)) : getI h ci q k = some z := by
  unfold getI; rw [e]; simp [ek]
theorem gL {h : Hp} {ci q : Nat} {fs : List AV} (k : Nat) {z : Int} (e : h.2 q = some (obj ci fs)) (ek : fs[k]? = some (vl z)) : getL h ci q k = some z := by
  unfold getL; rw [e]; simp [ek]
theorem gR {h : Hp} {ci q : Nat} {fs : List AV} (k : Nat) {z : Nat} (e : h.2 q = some (obj ci fs)) (ek : fs[k]? = some (vr z)) : getR h ci q k = some z := by
  unfold getR; rw [e]; simp [ek]
theorem pV {h : Hp} {ci q : Nat} {fs fs' : List AV} (k : Nat) {v : AV} (e : h.2 q = some (obj ci fs)) (hk : k < fs.length) (ef : fs.set k v = fs') : putV h ci q k v = some (hput h q (obj ci fs')) := by
  unfold putV; rw [e]; simp [hk, ef]
theorem co {h : Hp} {ci q : Nat} {fs : List AV} (e : h.2 q = some (obj ci fs)) : cob h ci q = some () := by
  unfold cob; rw [e]; simp
theorem ups_at {α : Type} (f : Nat → α) (i : Nat) (v : α) (j : Nat) : ups f i v j = if j = i then v else f j := rfl
theorem lp {σ β : Type} (F : Nat → Nat → σ → Option β) (I : Nat → σ → Prop) (m : Nat) (r : Option β → Prop) (step : ∀ N i s, i < m → I i s → ∃ s', I (i + 1) s' ∧ F (N + 1) i s = F N (i + 1) s') (fin : ∀ N s, I m s → r (F (N + 1) m s)) : ∀ (N i : Nat) (s : σ), i ≤ m → m - i < N → I i s → r (F N i s) := by
  have key : ∀ (d N i : Nat) (s : σ), m - i = d → i ≤ m → d < N → I i s → r (F N i s) := by
    intro d
    induction d with
    | zero =>
      intro N i s hd hi hN h0
      obtain ⟨N, rfl⟩ : ∃ k, N = k + 1 := ⟨N - 1, by omega⟩
      have : i = m := by omega
      subst this
      exact fin N s h0
    | succ d ih =>
      intro N i s hd hi hN h0
      obtain ⟨N, rfl⟩ : ∃ k, N = k + 1 := ⟨N - 1, by omega⟩
      obtain ⟨s', h1, h2⟩ := step N i s (by omega) h0
      rw [h2]
      exact ih N (i + 1) s' (by omega) (by omega) (by omega) h1
  intro N i s hi hN h0
  exact key (m - i) N i s rfl hi hN h0
theorem FU_lt {k : Nat} (h : k < 1000000000000000000000000000000) : k < FU := Nat.lt_of_lt_of_le h FU_ge
/-- a loop that may end early -/
theorem lpe {σ β : Type} (F : Nat → Nat → σ → Option β) (I : Nat → σ → Prop) (m : Nat) (r : Option β → Prop) (step : ∀ N i s, i < m → I i s → r (F (N + 1) i s) ∨ ∃ s', I (i + 1) s' ∧ F (N + 1) i s = F N (i + 1) s') (fin : ∀ N s, I m s → r (F (N + 1) m s)) : ∀ (N i : Nat) (s : σ), i ≤ m → m - i < N → I i s → r (F N i s) := by
  have key : ∀ (d N i : Nat) (s : σ), m - i = d → i ≤ m → d < N → I i s → r (F N i s) := by
    intro d
    induction d with
    | zero =>
      intro N i s hd hi hN h0
      obtain ⟨N, rfl⟩ : ∃ k, N = k + 1 := ⟨N - 1, by omega⟩
      have : i = m := by omega
      subst this
      exact fin N s h0
    | succ d ih =>
      intro N i s hd hi hN h0
      obtain ⟨N, rfl⟩ : ∃ k, N = k + 1 := ⟨N - 1, by omega⟩
      rcases step N i s (by omega) h0 with h1 | ⟨s', h1, h2⟩
      · exact h1
      · rw [h2]
        exact ih N (i + 1) s' (by omega) (by omega) (by omega) h1
  intro N i s hi hN h0
  exact key (m - i) N i s rfl hi hN h0
-- sums and greatest ones
def sumN : Nat → (Nat → Int) → Int
  | 0, _ => 0
  | n + 1, F => sumN n F + F n
def maxN : Nat → (Nat → Int) → Int
  | 0, _ => 0
  | n + 1, F => max (maxN n F) (F n)
theorem sumN_congr {n : Nat} {F G : Nat → Int} (h : ∀ i, i < n → F i = G i) : sumN n F = sumN n G := by
  induction n with
  | zero => rfl
  | succ n ih => simp only [sumN]; rw [ih (fun i hi => h i (by omega)), h n (by omega)]
theorem maxN_congr {n : Nat} {F G : Nat → Int} (h : ∀ i, i < n → F i = G i) : maxN n F = maxN n G := by
  induction n with
  | zero => rfl
  | succ n ih => simp only [maxN]; rw [ih (fun i hi => h i (by omega)), h n (by omega)]
theorem sumN_le {n : Nat} {F : Nat → Int} {c : Int} (h : ∀ i, i < n → F i ≤ c) : sumN n F ≤ n * c := by
  induction n with
  | zero => simp [sumN]
  | succ n ih =>
    have h1 := ih (fun i hi => h i (by omega)); have h2 := h n (by omega)
    simp only [sumN]; rw [Int.natCast_add, Int.add_mul]; omega
theorem sumN_nonneg {n : Nat} {F : Nat → Int} (h : ∀ i, i < n → 0 ≤ F i) : 0 ≤ sumN n F := by
  induction n with
  | zero => simp [sumN]
  | succ n ih =>
    have h1 := ih (fun i hi => h i (by omega)); have h2 := h n (by omega)
    simp only [sumN]; omega
theorem sumN_add {n : Nat} (F G : Nat → Int) : sumN n (fun i => F i + G i) = sumN n F + sumN n G := by
  induction n with
  | zero => rfl
  | succ n ih => simp only [sumN]; rw [ih]; omega
theorem sumN_zero {n : Nat} {F : Nat → Int} (h : ∀ i, i < n → F i = 0) : sumN n F = 0 := by
  induction n with
  | zero => rfl
  | succ n ih => simp only [sumN]; rw [ih (fun i hi => h i (by omega)), h n (by omega)]; rfl
theorem sumN_comm {n m : Nat} (F : Nat → Nat → Int) : sumN n (fun i => sumN m (F i)) = sumN m (fun j => sumN n (fun i => F i j)) := by
  induction n with
  | zero => simp only [sumN]; exact (sumN_zero (fun _ _ => rfl)).symm
  | succ n ih => simp only [sumN]; rw [ih, sumN_add]
theorem maxN_nonneg (n : Nat) (F : Nat → Int) : 0 ≤ maxN n F := by
  induction n with
  | zero => simp [maxN]
  | succ n ih => simp only [maxN]; omega
theorem maxN_le {n : Nat} {F : Nat → Int} {c : Int} (hc : 0 ≤ c) (h : ∀ i, i < n → F i ≤ c) : maxN n F ≤ c := by
  induction n with
  | zero => simpa [maxN] using hc
  | succ n ih =>
    have h1 := ih (fun i hi => h i (by omega)); have h2 := h n (by omega)
    simp only [maxN]; omega
theorem le_maxN {n : Nat} {F : Nat → Int} {i : Nat} (hi : i < n) : F i ≤ maxN n F := by
  induction n with
  | zero => omega
  | succ n ih =>
    simp only [maxN]
    by_cases h : i = n
    · subst h; omega
    · have := ih (by omega); omega
