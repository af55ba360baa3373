/-! spans on a line -/
def EqW (n : Nat) (W W' : Nat → Int) : Prop := ∀ a b, a < n → b < n → W (12 * a + b) = W' (12 * a + b)
section
variable {n : Nat} {W W' X K X' K' : Nat → Int} {p : Nat → Bool}
theorem hsum_cn (e : EqW n W W') {t : Nat} (ht : t < n) : hsum n W p t = hsum n W' p t := sumN_congr (fun i hi => by rw [e t i ht hi])
theorem hmd_cn (e : EqW n W W') : ∀ i, i ≤ n → hmd n W p i = hmd n W' p i := by
  intro i
  induction i with
  | zero => intro _; rfl
  | succ i ih =>
    intro hi
    have e1 := ih (by omega)
    simp only [hmd]
    have hm := hmd_in n W' p i
    rw [e1, hsum_cn e (t := i) (by omega)]
    by_cases z : hmd n W' p i = -1
    · rw [z]; simp
    · rw [hsum_cn e (t := (hmd n W' p i).toNat) (by omega)]
theorem hco_cn (e : EqW n W W') {g : Int} (hg : g ≠ 3) (hg2 : 0 ≤ g ∧ g ≤ 3) : hco n W X K g p = hco n W' X' K' g p := by
  unfold hco
  have e1 : hsq n W p = hsq n W' p := sumN_congr (fun i hi => by
    have : hsq1 W p i = hsq1 W' p i := sumN_congr (fun j hj => by rw [e i j hi (by omega)])
    rw [this])
  have e2 : hwd n W p = hwd n W' p := maxN_congr (fun i hi => by
    have : hrch W p i i = hrch W' p i i := maxN_congr (fun j hj => by rw [e i j hi (by omega)])
    rw [this])
  have hm := hmd_in n W' p n
  rw [e1, e2, hmd_cn e n (Nat.le_refl _)]
  by_cases g0 : g = 0
  · rw [if_pos g0, if_pos g0]
  · rw [if_neg g0, if_neg g0]
    by_cases g1 : g = 1
    · rw [if_pos g1, if_pos g1]
      by_cases z : hmd n W' p n = -1
      · rw [if_pos z, if_pos z]
      · rw [if_neg z, if_neg z, hsum_cn e (by omega)]
    · rw [if_neg g1, if_neg g1, if_pos (by omega), if_pos (by omega)]
end
/-- each number that is taken has one first taker -/
theorem first_one {f : Nat → Int} {u c : Int} : ∀ m : Nat, ((∃ t, t < m ∧ f t = u) → sumN m (fun t => if f t = u ∧ ∀ j, j < t → f j ≠ u then c else 0) = c) ∧ ((∀ t, t < m → f t ≠ u) → sumN m (fun t => if f t = u ∧ ∀ j, j < t → f j ≠ u then c else 0) = 0) := by
  intro m
  induction m with
  | zero => exact ⟨fun ⟨t, ht, _⟩ => by omega, fun _ => rfl⟩
  | succ m ih =>
    constructor
    · rintro ⟨t, ht, e⟩
      simp only [sumN]
      by_cases z : ∃ t, t < m ∧ f t = u
      · rw [ih.1 z, if_neg]
        · omega
        · rintro ⟨y1, y2⟩
          obtain ⟨t', ht', e'⟩ := z
          exact y2 t' ht' e'
      · have z' : ∀ t, t < m → f t ≠ u := fun t ht y => z ⟨t, ht, y⟩
        have : t = m := by
          rcases Nat.lt_or_ge t m with w | w
          · exact absurd e (z' t w)
          · omega
        subst this
        rw [ih.2 z', if_pos ⟨e, z'⟩]; omega
    · intro h
      simp only [sumN]
      rw [ih.2 (fun t ht => h t (by omega)), if_neg (fun y => h m (by omega) y.1)]; rfl
theorem sum_lab {n k : Nat} {f : Nat → Int} (hl : ∀ i, i < n → 0 ≤ f i ∧ f i < k) (hon : ∀ u : Nat, u < k → ∃ i, i < n ∧ f i = u) (T : (Nat → Bool) → Int) : sumN k (fun u => T (pv f u)) = sumN n (fun t => if (∀ j, j < t → f j ≠ f t) then T (pv f (f t)) else 0) := by
  have e1 : sumN k (fun u => T (pv f u)) = sumN k (fun u => sumN n (fun t => if f t = (u : Int) ∧ ∀ j, j < t → f j ≠ (u : Int) then T (pv f u) else 0)) := sumN_congr (fun u hu => ((first_one n).1 (hon u hu)).symm)
  rw [e1, sumN_comm]
  refine sumN_congr (fun t ht => ?_)
  have h1 := hl t ht
  have e2 : sumN k (fun u => if f t = (u : Int) ∧ ∀ j, j < t → f j ≠ (u : Int) then T (pv f u) else 0) = sumN k (fun u => if f t = (u : Int) then (if ∀ j, j < t → f j ≠ (u : Int) then T (pv f u) else 0) else 0) := sumN_congr (fun u hu => by
    by_cases z : f t = (u : Int)
    · by_cases y : ∀ j, j < t → f j ≠ (u : Int)
      · rw [if_pos ⟨z, y⟩, if_pos z, if_pos y]
      · rw [if_neg (fun w => y w.2), if_pos z, if_neg y]
    · rw [if_neg (fun w => z w.1), if_neg z])
  rw [e2, sumN_pick h1.1 h1.2 (fun u => if ∀ j, j < t → f j ≠ (u : Int) then T (pv f u) else 0)]
  have e3 : (((f t).toNat : Nat) : Int) = f t := by omega
  simp only [e3]
theorem cst_lab {n k : Nat} {W X K f g : Nat → Int} {gl : Int} (hg3 : gl ≠ 3) (hn : n ≤ 12) (hl : ∀ i, i < n → 0 ≤ f i ∧ f i < k) (hon : ∀ u : Nat, u < k → ∃ i, i < n ∧ f i = u) (hN : RN n f g) : cst n W X K gl g = cfold gl 0 (fun u => hco n W X K gl (pv f u)) k := by
  have hm0 := mx_nonneg g n
  have hgl : ∀ i, i < n → 0 ≤ g i ∧ g i < ((mx g n).toNat : Nat) := fun i hi => by
    have := hN.1 i hi; have := lt_mx (g := g) hi; omega
  have hgo : ∀ u : Nat, u < (mx g n).toNat → ∃ i, i < n ∧ g i = u := fun u hu => hN.1.onto u (by omega) (by omega)
  have same : ∀ t, t < n → hco n W X K gl (pv g (g t)) = hco n W X K gl (pv f (f t)) := fun t ht =>
    hco_congr hn (fun _ _ => rfl) (fun _ _ => rfl) (fun _ _ => rfl) (fun i hi => by
      unfold pv
      have := hN.2 i t hi ht
      by_cases z : g i = g t
      · simp [z, this.mp z]
      · have z' : ¬ f i = f t := fun y => z (this.mpr y)
        simp [z, z']) gl
  unfold cst
  rw [if_neg hg3]
  by_cases g2 : gl = 2
  · subst g2
    rw [cfold_2, cfold_2]
    apply Int.le_antisymm
    · refine maxN_le (maxN_nonneg _ _) (fun v hv => ?_)
      obtain ⟨t, ht, et⟩ := hgo v hv
      have h1 := hl t ht
      have e3 : (((f t).toNat : Nat) : Int) = f t := by omega
      rw [← et, same t ht, ← e3]
      exact le_maxN (F := fun u : Nat => hco n W X K 2 (pv f u)) (by omega)
    · refine maxN_le (maxN_nonneg _ _) (fun v hv => ?_)
      obtain ⟨t, ht, et⟩ := hon v hv
      have h1 := hgl t ht
      have e3 : (((g t).toNat : Nat) : Int) = g t := by omega
      rw [← et, ← same t ht, ← e3]
      exact le_maxN (F := fun u : Nat => hco n W X K 2 (pv g u)) (by omega)
  · rw [cfold_s g2, cfold_s g2]
    congr 1
    rw [sum_lab hgl hgo (hco n W X K gl), sum_lab hl hon (hco n W X K gl)]
    refine sumN_congr (fun t ht => ?_)
    have hf : (∀ j, j < t → g j ≠ g t) ↔ (∀ j, j < t → f j ≠ f t) := by
      constructor
      · intro h j hj y; exact h j hj ((hN.2 j t (by omega) ht).mpr y)
      · intro h j hj y; exact h j hj ((hN.2 j t (by omega) ht).mp y)
    by_cases z : ∀ j, j < t → g j ≠ g t
    · rw [if_pos z, if_pos (hf.mp z), same t ht]
    · rw [if_neg z, if_neg (fun y => z (hf.mpr y))]
/-- spans: which one a place lies in, and where that one begins -/
def spn (M : Nat) : Nat → Nat
  | 0 => 0
  | i + 1 => if M.testBit i then spn M i + 1 else spn M i
def sbn (M : Nat) : Nat → Nat
  | 0 => 0
  | i + 1 => if M.testBit i then i + 1 else sbn M i
theorem sp_mono {M i j : Nat} (h : i ≤ j) : spn M i ≤ spn M j := by
  induction j with
  | zero => have : i = 0 := by omega
            subst this; exact Nat.le_refl _
  | succ j ih =>
    by_cases e : i = j + 1
    · subst e; exact Nat.le_refl _
    · have := ih (by omega)
      simp only [spn]; split <;> omega
theorem sp_le (M i : Nat) : spn M i ≤ i := by
  induction i with
  | zero => exact Nat.le_refl _
  | succ i ih => simp only [spn]; split <;> omega
theorem sb_iff {M : Nat} : ∀ i j : Nat, j ≤ i → (sbn M i ≤ j ↔ spn M j = spn M i) := by
  intro i
  induction i with
  | zero => intro j hj; have : j = 0 := by omega
            subst this; simp [sbn]
  | succ i ih =>
    intro j hj
    by_cases e : j = i + 1
    · subst e
      simp only [sbn]
      split
      · simp
      · have h1 := (ih i (Nat.le_refl _)).mpr rfl
        constructor
        · intro _; trivial
        · intro _; omega
    · have h1 := ih j (by omega)
      have h2 := sp_mono (M := M) (show j ≤ i by omega)
      simp only [sbn, spn]
      split
      · constructor
        · intro z; omega
        · intro z; omega
      · exact h1
theorem sp_onto {M : Nat} : ∀ i u : Nat, u ≤ spn M i → ∃ j, j ≤ i ∧ spn M j = u := by
  intro i
  induction i with
  | zero => intro u hu; exact ⟨0, Nat.le_refl _, by have : spn M 0 = 0 := rfl; omega⟩
  | succ i ih =>
    intro u hu
    by_cases z : u ≤ spn M i
    · obtain ⟨j, hj, e⟩ := ih u z
      exact ⟨j, by omega, e⟩
    · refine ⟨i + 1, Nat.le_refl _, ?_⟩
      have : spn M (i + 1) ≤ spn M i + 1 := by simp only [spn]; split <;> omega
      omega
/-- the best of sets of cuts -/
def LB (n : Nat) (V : Nat → Prop) (lab : Nat → Nat → Int) (Cc : Nat → Int) (none : Int) (m : Nat) (L : Int) (b : Nat → Int) : Prop :=
  (L = none ∧ ∀ M, M < m → ¬ V M) ∨ (L ≠ none ∧ ∃ M, M < m ∧ V M ∧ RN n (lab M) b ∧ Cc M = L ∧ ∀ M', M' < m → V M' → L ≤ Cc M' ∧ (Cc M' = L → ∀ g, RN n (lab M') g → Eqn n b g ∨ ahead n b g))
theorem LB.uq {n : Nat} {V : Nat → Prop} {lab : Nat → Nat → Int} {Cc : Nat → Int} {none none' : Int} {m : Nat} {L L' : Int} {b b' : Nat → Int} (hV : ∃ M, M < m ∧ V M) (h : LB n V lab Cc none m L b) (h' : LB n V lab Cc none' m L' b') : L = L' ∧ Eqn n b b' ∧ RGS n b := by
  obtain ⟨M0, hM0, hV0⟩ := hV
  rcases h with ⟨-, h2⟩ | ⟨h0, M, h1, h2, h3, h4, h5⟩
  · exact absurd hV0 (h2 M0 hM0)
  · rcases h' with ⟨-, k2⟩ | ⟨k0, M', k1, k2, k3, k4, k5⟩
    · exact absurd hV0 (k2 M0 hM0)
    · have a1 := h5 M' k1 k2; have a2 := k5 M h1 h2
      have e : L = L' := by omega
      refine ⟨e, ?_, h3.1⟩
      rcases a1.2 (by omega) b' k3 with z | z
      · exact z
      · rcases a2.2 (by omega) b h3 with y | y
        · exact fun i hi => (y i hi).symm
        · exact (ahead_asym z y).elim
theorem LB.skip {n : Nat} {V : Nat → Prop} {lab : Nat → Nat → Int} {Cc : Nat → Int} {none : Int} {m : Nat} {L : Int} {b : Nat → Int} (h : LB n V lab Cc none m L b) (hv : ¬ V m) : LB n V lab Cc none (m + 1) L b := by
  rcases h with ⟨h1, h2⟩ | ⟨h0, M, h1, h2, h3, h4, h5⟩
  · exact Or.inl ⟨h1, fun M hM => by
      by_cases z : M = m
      · rw [z]; exact hv
      · exact h2 M (by omega)⟩
  · exact Or.inr ⟨h0, M, by omega, h2, h3, h4, fun M' hM' hV' => by
      by_cases z : M' = m
      · exact absurd (z ▸ hV') hv
      · exact h5 M' (by omega) hV'⟩
theorem LB.add {n : Nat} {V : Nat → Prop} {lab : Nat → Nat → Int} {Cc : Nat → Int} {none : Int} {m : Nat} {L : Int} {b g : Nat → Int} (h : LB n V lab Cc none m L b) (hv : V m) (hg : RN n (lab m) g) (hn : Cc m ≠ none) :
    ((L = none ∨ Cc m < L ∨ (Cc m = L ∧ ahead n g b)) → ∀ b', Eqn n b' g → LB n V lab Cc none (m + 1) (Cc m) b') ∧ (L ≠ none → (L < Cc m ∨ (Cc m = L ∧ ¬ ahead n g b)) → LB n V lab Cc none (m + 1) L b) := by
  constructor
  · intro hc b' hb'
    have hb2 : RN n (lab m) b' := ⟨hg.1.congr (fun i hi => (hb' i hi).symm), fun i j hi hj => by rw [hb' i hi, hb' j hj]; exact hg.2 i j hi hj⟩
    refine Or.inr ⟨hn, m, by omega, hv, hb2, rfl, fun M' hM' hV' => ?_⟩
    by_cases z : M' = m
    · subst z
      exact ⟨Int.le_refl _, fun _ g' hg' => Or.inl (hb2.uniq hg')⟩
    · rcases h with ⟨h1, h2⟩ | ⟨h0, M, h1, h2, h3, h4, h5⟩
      · exact absurd hV' (h2 M' (by omega))
      · have a := h5 M' (by omega) hV'
        rcases hc with y | y | ⟨y1, y2⟩
        · exact absurd y h0
        · exact ⟨by omega, fun w => by omega⟩
        · refine ⟨by omega, fun w g' hg' => ?_⟩
          have y3 : ahead n b' b := ahead_congr (fun i hi => (hb' i hi).symm) (fun _ _ => rfl) y2
          rcases a.2 (by omega) g' hg' with u | u
          · exact Or.inr (ahead_congr (fun _ _ => rfl) u y3)
          · right
            obtain ⟨i, hi, p1, p2⟩ := y3
            obtain ⟨j, hj, q1, q2⟩ := u
            rcases Nat.lt_trichotomy i j with v | v | v
            · exact ⟨i, hi, by rw [← q2 i v]; exact p1, fun l hl => (p2 l hl).trans (q2 l (by omega))⟩
            · subst v; exact ⟨i, hi, by omega, fun l hl => (p2 l hl).trans (q2 l hl)⟩
            · exact ⟨j, hj, by rw [p2 j v]; exact q1, fun l hl => (p2 l (by omega)).trans (q2 l hl)⟩
  · intro h0' hc
    rcases h with ⟨h1, h2⟩ | ⟨h0, M, h1, h2, h3, h4, h5⟩
    · exact absurd h1 h0'
    · refine Or.inr ⟨h0, M, by omega, h2, h3, h4, fun M' hM' hV' => ?_⟩
      by_cases z : M' = m
      · subst z
        refine ⟨by omega, fun w g' hg' => ?_⟩
        have eg := hg.uniq hg'
        rcases hc with y | ⟨y1, y2⟩
        · omega
        · rcases tricho n b g' with u | u | u
          · exact Or.inl u
          · exact Or.inr u
          · exact absurd (ahead_congr (fun i hi => (eg i hi).symm) (fun _ _ => rfl) u) y2
      · exact h5 M' (by omega) hV'
