/-! names of partings: what they are, and that a name is told by which things lie together -/
def mx (g : Nat → Int) : Nat → Int
  | 0 => 0
  | i + 1 => max (mx g i) (g i + 1)
def RGS (n : Nat) (g : Nat → Int) : Prop := ∀ i, i < n → 0 ≤ g i ∧ g i ≤ mx g i
theorem mx_congr {g g' : Nat → Int} {n : Nat} (h : ∀ i, i < n → g i = g' i) : mx g n = mx g' n := by
  induction n with
  | zero => rfl
  | succ n ih => simp only [mx]; rw [ih (fun i hi => h i (by omega)), h n (by omega)]
theorem mx_nonneg (g : Nat → Int) (n : Nat) : 0 ≤ mx g n := by
  induction n with
  | zero => simp [mx]
  | succ n ih => simp only [mx]; omega
theorem lt_mx {g : Nat → Int} {n i : Nat} (hi : i < n) : g i < mx g n := by
  induction n with
  | zero => omega
  | succ n ih =>
    simp only [mx]
    by_cases h : i = n
    · subst h; omega
    · have := ih (by omega); omega
theorem mx_mono {g : Nat → Int} {m n : Nat} (h : m ≤ n) : mx g m ≤ mx g n := by
  induction n with
  | zero => have : m = 0 := by omega
            subst this; exact Int.le_refl _
  | succ n ih =>
    by_cases e : m = n + 1
    · subst e; exact Int.le_refl _
    · have := ih (by omega); simp only [mx]; omega
theorem RGS.sub {n m : Nat} {g : Nat → Int} (h : RGS n g) (hm : m ≤ n) : RGS m g := fun i hi => h i (by omega)
theorem RGS.congr {n : Nat} {g g' : Nat → Int} (h : RGS n g) (e : ∀ i, i < n → g i = g' i) : RGS n g' := by
  intro i hi
  rw [← e i hi, ← mx_congr (fun j hj => e j (by omega))]
  exact h i hi
theorem RGS.mx_le {n : Nat} {g : Nat → Int} (h : RGS n g) : mx g n ≤ n := by
  induction n with
  | zero => simp [mx]
  | succ n ih =>
    have h1 := ih (h.sub (by omega)); have h2 := (h n (by omega)).2
    simp only [mx]; omega
theorem RGS.onto {n : Nat} {g : Nat → Int} (h : RGS n g) : ∀ v, 0 ≤ v → v < mx g n → ∃ j, j < n ∧ g j = v := by
  induction n with
  | zero => intro v h1 h2; simp [mx] at h2; omega
  | succ n ih =>
    intro v h1 h2
    by_cases e : v < mx g n
    · obtain ⟨j, hj, hv⟩ := ih (h.sub (by omega)) v h1 e
      exact ⟨j, by omega, hv⟩
    · simp only [mx] at h2
      have := (h n (by omega)).2
      exact ⟨n, by omega, by omega⟩
theorem RGS.lt {n : Nat} {g : Nat → Int} (h : RGS n g) {i : Nat} (hi : i < n) : g i < n := by
  have h1 := (h i hi).2; have h2 := (h.sub (m := i) (by omega)).mx_le; omega
theorem RGS.pos {n : Nat} {g : Nat → Int} (h : RGS n g) (hn : 0 < n) : 1 ≤ mx g n := by
  have := lt_mx (g := g) hn; have := (h 0 hn).1; omega
theorem RGS.zero {n : Nat} {g : Nat → Int} (h : RGS n g) (hn : 0 < n) : g 0 = 0 := by
  have := h 0 hn; simp only [mx] at this; omega
theorem RGS.uniq {n : Nat} {g g' : Nat → Int} (h : RGS n g) (h' : RGS n g') (e : ∀ i j, i < n → j < n → (g i = g j ↔ g' i = g' j)) : ∀ i, i < n → g i = g' i := by
  intro i
  induction i using Nat.strongRecOn with
  | ind i ih =>
    intro hi
    have hm : mx g i = mx g' i := mx_congr (fun j hj => ih j hj (by omega))
    by_cases hx : ∃ j, j < i ∧ g j = g i
    · obtain ⟨j, hj, hg⟩ := hx
      have := (e j i (by omega) hi).mp hg
      rw [← hg, ← this, ih j hj (by omega)]
    · have h1 : g i = mx g i := by
        by_cases hlt : g i < mx g i
        · obtain ⟨j, hj, hv⟩ := (h.sub (m := i) (by omega)).onto (g i) (h i hi).1 hlt
          exact absurd ⟨j, hj, hv⟩ hx
        · have := (h i hi).2; omega
      have h2 : g' i = mx g' i := by
        by_cases hlt : g' i < mx g' i
        · obtain ⟨j, hj, hv⟩ := (h'.sub (m := i) (by omega)).onto (g' i) (h' i hi).1 hlt
          exact absurd ⟨j, hj, (e j i (by omega) hi).mpr hv⟩ hx
        · have := (h' i hi).2; omega
      omega
/-- g is the name of the parting that f tells by any numbers -/
def RN (n : Nat) (f g : Nat → Int) : Prop := RGS n g ∧ ∀ i j, i < n → j < n → (g i = g j ↔ f i = f j)
theorem RN.uniq {n : Nat} {f g g' : Nat → Int} (h : RN n f g) (h' : RN n f g') : ∀ i, i < n → g i = g' i :=
  RGS.uniq h.1 h'.1 (fun i j hi hj => (h.2 i j hi hj).trans (h'.2 i j hi hj).symm)
theorem RN.same {n : Nat} {f f' g g' : Nat → Int} (h : RN n f g) (h' : RN n f' g') (e : ∀ i j, i < n → j < n → (f i = f j ↔ f' i = f' j)) : ∀ i, i < n → g i = g' i :=
  RGS.uniq h.1 h'.1 (fun i j hi hj => ((h.2 i j hi hj).trans (e i j hi hj)).trans (h'.2 i j hi hj).symm)
theorem RN.self {n : Nat} {f g : Nat → Int} (h : RN n f g) (hf : RGS n f) : ∀ i, i < n → g i = f i := RGS.uniq h.1 hf h.2
/-- one thing more: a new heap, or that of an earlier one -/
theorem RN.step {t : Nat} {f g : Nat → Int} (h : RN t f g) (hc : (∃ j, j < t ∧ f j = f t ∧ g t = g j) ∨ ((∀ j, j < t → f j ≠ f t) ∧ g t = mx g t)) : RN (t + 1) f g := by
  obtain ⟨h1, h2⟩ := h
  have key : ∀ i, i < t → (g i = g t ↔ f i = f t) := by
    intro i hi
    rcases hc with ⟨j, hj, e1, e2⟩ | ⟨e1, e2⟩
    · rw [e2, h2 i j hi hj, e1]
    · have := lt_mx (g := g) hi
      constructor
      · intro z; omega
      · intro z; exact absurd z (e1 i hi)
  refine ⟨fun i hi => ?_, fun i j hi hj => ?_⟩
  · by_cases e : i = t
    · subst e
      rcases hc with ⟨j, hj, e1, e2⟩ | ⟨e1, e2⟩
      · have := h1 j hj; have := lt_mx (g := g) hj; omega
      · have := mx_nonneg g i; omega
    · exact h1 i (by omega)
  · by_cases e1 : i = t
    · by_cases e2 : j = t
      · subst e1; subst e2; simp
      · subst e1
        have := key j (by omega)
        constructor
        · intro z; exact (this.mp z.symm).symm
        · intro z; exact (this.mpr z.symm).symm
    · by_cases e2 : j = t
      · subst e2; exact key i (by omega)
      · exact h2 i j (by omega) (by omega)
