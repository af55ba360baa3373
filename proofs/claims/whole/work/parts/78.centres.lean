/-! centres by farthest first -/
def isFar (n : Nat) (w : Nat → Int) (t : Nat) : Prop := t < n ∧ ∀ j, j < n → w j ≤ w t ∧ (j < t → w j < w t)
theorem isFar.uq {n : Nat} {w w' : Nat → Int} {t t' : Nat} (h : isFar n w t) (h' : isFar n w' t') (e : ∀ j, j < n → w j = w' j) : t = t' := by
  have a1 := h.2 t' h'.1; have a2 := h'.2 t h.1
  have := e t h.1; have := e t' h'.1
  rcases Nat.lt_trichotomy t t' with z | z | z
  · have := a2.2 z; omega
  · exact z
  · have := a1.2 z; omega
theorem isFar.max {n : Nat} {w : Nat → Int} {t : Nat} (h : isFar n w t) (h0 : 0 ≤ w t) : w t = maxN n w := by
  apply Int.le_antisymm
  · exact le_maxN h.1
  · exact maxN_le h0 (fun j hj => (h.2 j hj).1)
/-- which of the first k centres is nearest to a thing -/
def nr (W : Nat → Int) (row : Nat → Nat) (t : Nat) : Nat → Nat
  | 0 => 0
  | 1 => 0
  | k + 2 => if W (12 * t + row (k + 1)) < W (12 * t + row (nr W row t (k + 1))) then k + 1 else nr W row t (k + 1)
theorem nr_lt {W : Nat → Int} {row : Nat → Nat} {t : Nat} : ∀ k, 1 ≤ k → nr W row t k < k := by
  intro k
  induction k with
  | zero => omega
  | succ k ih =>
    intro _
    cases k with
    | zero => show 0 < 1; omega
    | succ k =>
      simp only [nr]
      split
      · omega
      · have := ih (by omega); omega
theorem nr_s {W : Nat → Int} {row : Nat → Nat} {t k : Nat} (hk : 1 ≤ k) : nr W row t (k + 1) = if W (12 * t + row k) < W (12 * t + row (nr W row t k)) then k else nr W row t k := by
  obtain ⟨j, rfl⟩ : ∃ j, k = j + 1 := ⟨k - 1, by omega⟩
  rfl
theorem nr_min {W : Nat → Int} {row : Nat → Nat} {t : Nat} : ∀ k, 1 ≤ k → ∀ j, j < k → W (12 * t + row (nr W row t k)) ≤ W (12 * t + row j) := by
  intro k
  induction k with
  | zero => omega
  | succ k ih =>
    intro _ j hj
    by_cases k0 : k = 0
    · subst k0
      have : j = 0 := by omega
      subst this; exact Int.le_refl _
    · rw [nr_s (by omega)]
      split
      · next z =>
        by_cases e : j = k
        · subst e; omega
        · have := ih (by omega) j (by omega); omega
      · next z =>
        by_cases e : j = k
        · subst e; omega
        · exact ih (by omega) j (by omega)
theorem nr_new {W : Nat → Int} {row : Nat → Nat} {t : Nat} : ∀ k, 1 ≤ k → ∀ a, a < nr W row t k → row a ≠ row (nr W row t k) := by
  intro k
  induction k with
  | zero => omega
  | succ k ih =>
    intro _ a ha
    by_cases k0 : k = 0
    · subst k0
      have : a < 0 := ha
      omega
    · rw [nr_s (by omega)] at ha ⊢
      by_cases z : W (12 * t + row k) < W (12 * t + row (nr W row t k))
      · rw [if_pos z] at ha ⊢
        intro e
        have := nr_min k (by omega) a ha (W := W) (row := row) (t := t)
        rw [e] at this; omega
      · rw [if_neg z] at ha ⊢
        exact ih (by omega) a ha
/-- heaps by centres are heaps by the numbers of centres -/
theorem nr_eq {W : Nat → Int} {row : Nat → Nat} {t u k : Nat} (hk : 1 ≤ k) : row (nr W row t k) = row (nr W row u k) ↔ nr W row t k = nr W row u k := by
  constructor
  · intro e
    rcases Nat.lt_trichotomy (nr W row t k) (nr W row u k) with z | z | z
    · exact absurd e (nr_new k hk _ z)
    · exact z
    · exact absurd e.symm (nr_new k hk _ z)
  · intro e; rw [e]
theorem nr_congr {W W' : Nat → Int} {row row' : Nat → Nat} {t : Nat} (ht : t < 12) (eW : Eqn 144 W W') : ∀ k, (∀ i, i < k → row i = row' i ∧ row i < 12) → nr W row t k = nr W' row' t k := by
  intro k
  induction k with
  | zero => intro _; rfl
  | succ k ih =>
    intro h
    by_cases k0 : k = 0
    · subst k0; rfl
    · have e := ih (fun i hi => h i (by omega))
      rw [nr_s (by omega), nr_s (by omega), e]
      have hl := nr_lt (W := W') (row := row') (t := t) k (by omega)
      have h1 := h k (by omega); have h2 := h (nr W' row' t k) (by omega)
      rw [eW _ (by omega), eW _ (by omega), h1.1, h2.1]
/-- the centres -/
def CTr (W : Nat → Int) (n : Nat) (row : Nat → Nat) (k : Nat) : Prop := row 0 = 0 ∧ ∀ i, 1 ≤ i → i < k → isFar n (fun t => W (12 * t + row (nr W row t i))) (row i)
theorem CTr.lt {W : Nat → Int} {n : Nat} {row : Nat → Nat} {k : Nat} (h : CTr W n row k) (hn : 1 ≤ n) : ∀ i, i < k → row i < n := by
  intro i hi
  by_cases z : i = 0
  · subst z; rw [h.1]; omega
  · exact (h.2 i (by omega) hi).1
theorem CTr.uq {W : Nat → Int} {n : Nat} (hn1 : 1 ≤ n) (hn : n ≤ 12) {row row' : Nat → Nat} : ∀ {k : Nat}, CTr W n row k → CTr W n row' k → ∀ i, i < k → row i = row' i := by
  intro k
  induction k with
  | zero => intro _ _ i hi; omega
  | succ k ih =>
    intro h h' i hi
    have h1 : CTr W n row k := ⟨h.1, fun i a b => h.2 i a (by omega)⟩
    have h2 : CTr W n row' k := ⟨h'.1, fun i a b => h'.2 i a (by omega)⟩
    have e := ih h1 h2
    by_cases z : i = k
    · subst z
      by_cases z0 : i = 0
      · subst z0; rw [h.1, h'.1]
      · refine (h.2 i (by omega) (by omega)).uq (h'.2 i (by omega) (by omega)) (fun t ht => ?_)
        have en := nr_congr (W := W) (W' := W) (row := row) (row' := row') (t := t) (by omega) (fun _ _ => rfl) i (fun j hj => ⟨e j hj, by have := h1.lt hn1 j hj; omega⟩)
        have hl := nr_lt (W := W) (row := row') (t := t) i (by omega)
        rw [en, e _ hl]
    · exact e i (by omega)
section
variable {h : Hp} {n : Nat} {k : Int} {P W X K f : Nat → Int}
theorem isSq.fF {m : Int} (S : isSq h 2 n m P W X K k f) (F : Nat → Int) : isSq (hput h 8 (arr 0 12 F)) 2 n m P W X K k F := by
  obtain ⟨s0, s1, s2, s3, s4, s5⟩ := S
  exact ⟨(hput_ne (by omega)).trans s0, (hput_ne (by omega)).trans s1, (hput_ne (by omega)).trans s2, (hput_ne (by omega)).trans s3, (hput_ne (by omega)).trans s4, s5.row F⟩
theorem wayTo_ok (S : isSc h 2 n P W X K k f) {t c : Nat} (ht : t < 12) (hc : c < 12) (e : f t = c) : fX7_wayToCentre 2 t h = some (W (12 * t + c), h) := by
  unfold fX7_wayToCentre
  rw [gR 5 S.1 rfl, ob, gR 2 S.2.2.2.2.2.1 rfl, ob, ald_of t S.2.2.2.2.2.2.1 rfl ht, ob, co S.1, ob, e, wayQ S ht hc, ob]
theorem far_ok (S : isSc h 2 n P W X K k f) (hn1 : 1 ≤ n) (hn : n ≤ 12) {c : Nat → Nat} (hc : ∀ t, t < n → f t = c t ∧ c t < 12) : ∃ t : Nat, fX7_farthestFromCentre 2 h = some ((t : Int), h) ∧ isFar n (fun t => W (12 * t + c t)) t := by
  unfold fX7_farthestFromCentre
  refine lp (fun N i (t : Nat) => fX7_farthestFromCentre_4 N 2 t i h) (fun i t => t < i ∧ ∀ j, j < i → W (12 * j + c j) ≤ W (12 * t + c t) ∧ (j < t → W (12 * j + c j) < W (12 * t + c t))) n (fun r => ∃ t : Nat, r = some ((t : Int), h) ∧ isFar n (fun t => W (12 * t + c t)) t) ?_ ?_ FU 1 0 hn1 (FU_lt (by omega)) ⟨by omega, fun j hj => ?_⟩
  · intro N i t hi ⟨h1, h2⟩
    have ci := hc i hi; have ct := hc t (by omega)
    have cc : ∀ z : Int, cob (z, h).2 6 2 = some () := fun z => co S.1
    rw [fX7_farthestFromCentre_4, gI 0 S.1 rfl, ob, if_neg (by omega), co S.1, ob, wayTo_ok S (by omega) ci.2 ci.1, ob, cc, ob]
    simp only []
    rw [wayTo_ok S (by omega) ct.2 ct.1, ob]
    by_cases z : W (12 * i + c i) ≤ W (12 * t + c t)
    · refine ⟨t, ⟨by omega, fun j hj => ?_⟩, ?_⟩
      · by_cases y : j = i
        · subst y; exact ⟨z, fun w => by omega⟩
        · exact h2 j (by omega)
      · rw [if_pos z, fX7_farthestFromCentre_27, c32_n (by omega) (by omega), ob]; rfl
    · refine ⟨i, ⟨by omega, fun j hj => ?_⟩, ?_⟩
      · by_cases y : j = i
        · subst y; exact ⟨Int.le_refl _, fun w => by omega⟩
        · have := h2 j (by omega); exact ⟨by omega, fun _ => by omega⟩
      · rw [if_neg z, fX7_farthestFromCentre_27, c32_n (by omega) (by omega), ob]; rfl
  · intro N t ⟨h1, h2⟩
    rw [fX7_farthestFromCentre_4, gI 0 S.1 rfl, ob, if_pos (by omega), fX7_farthestFromCentre_33]
    exact ⟨t, rfl, h1, h2⟩
  · have : j = 0 := by omega
    subst this; exact ⟨Int.le_refl _, fun z => by omega⟩
theorem gather_ok (S : isSc h 2 n P W X K k f) (hn : n ≤ 12) {c : Nat → Nat} (hc : ∀ t, t < n → f t = c t ∧ c t < 12) {z : Nat} (hz : z < 12) : ∃ F, fX7_gatherNearer 2 z h = some (hput h 8 (arr 0 12 F)) ∧ ∀ t, t < n → F t = ((if W (12 * t + z) < W (12 * t + c t) then z else c t : Nat) : Int) := by
  unfold fX7_gatherNearer
  have y := lp (fun N i (F : Nat → Int) => fX7_gatherNearer_2 N 2 z i (hput h 8 (arr 0 12 F))) (fun i F => (∀ t, t < i → F t = ((if W (12 * t + z) < W (12 * t + c t) then z else c t : Nat) : Int)) ∧ ∀ t, i ≤ t → F t = f t) n (fun r => ∃ F, r = some (hput h 8 (arr 0 12 F)) ∧ ∀ t, t < n → F t = ((if W (12 * t + z) < W (12 * t + c t) then z else c t : Nat) : Int)) ?_ ?_ FU 0 f (Nat.zero_le _) (FU_lt (by omega)) ⟨fun t ht => by omega, fun _ _ => rfl⟩
  · rw [show hput h 8 (arr 0 12 f) = h from hput_self S.2.2.2.2.2.2.1] at y; exact y
  · intro N i F hi ⟨h1, h2⟩
    have S' : isSc (hput h 8 (arr 0 12 F)) 2 n P W X K k F := S.fF F
    have ci := hc i hi
    have ei : F i = c i := (h2 i (Nat.le_refl _)).trans ci.1
    have cc : ∀ z : Int, cob (z, hput h 8 (arr 0 12 F)).2 6 2 = some () := fun z => co S'.1
    rw [fX7_gatherNearer_2, gI 0 S'.1 rfl, ob, if_neg (by omega), co S'.1, ob, wayQ S' (by omega) hz, ob, cc, ob]
    simp only []
    rw [wayTo_ok S' (by omega) ci.2 ei, ob]
    by_cases w : W (12 * i + z) < W (12 * i + c i)
    · refine ⟨ups F i z, ⟨fun t ht => ?_, fun t ht => ?_⟩, ?_⟩
      · rw [ups_at]
        by_cases y : t = i
        · subst y; rw [if_pos rfl, if_pos w]
        · rw [if_neg y]; exact h1 t (by omega)
      · rw [ups_at, if_neg (by omega)]; exact h2 t (by omega)
      · rw [if_neg (by show ¬ W (12 * i + c i) ≤ W (12 * i + z); omega)]
        simp only []
        rw [gR 5 S'.1 rfl, ob, gR 2 S'.2.2.2.2.2.1 rfl, ob, ast_of i S'.2.2.2.2.2.2.1 rfl (by omega), ob, fX7_gatherNearer_34, c32_n (by omega) (by omega), ob, hput_hput]; rfl
    · refine ⟨F, ⟨fun t ht => ?_, fun t ht => h2 t (by omega)⟩, ?_⟩
      · by_cases y : t = i
        · subst y; rw [if_neg w]; exact ei
        · exact h1 t (by omega)
      · rw [if_pos (by show W (12 * i + c i) ≤ W (12 * i + z); omega)]
        rw [fX7_gatherNearer_34, c32_n (by omega) (by omega), ob]; rfl
  · intro N F ⟨h1, h2⟩
    have S' : isSc (hput h 8 (arr 0 12 F)) 2 n P W X K k F := S.fF F
    rw [fX7_gatherNearer_2, gI 0 S'.1 rfl, ob, if_pos (by omega), fX7_gatherNearer_40]
    exact ⟨F, rfl, h1⟩
end
