/-! trees: what both sides keep to -/
def mm (kd : Nat) (v w : Int) : Int := if kd = 0 then min v w else max v w
def nb (kd : Nat) (v w : Int) : Prop := if kd = 0 then v ≤ w else w ≤ v
def HT (kd : Nat) (W : Nat → Int) (n : Nat) (nm : Nat → Int) (p q v : Int) : Prop := (∃ u w, u < n ∧ w < n ∧ nm u = p ∧ nm w = q ∧ v = W (12 * u + w)) ∧ ∀ u w, u < n → w < n → nm u = p → nm w = q → nb kd v (W (12 * u + w))
section
variable {kd : Nat} {W : Nat → Int} {n : Nat} {nm nm' : Nat → Int}
theorem nb_anti {v w : Int} (h : nb kd v w) (h' : nb kd w v) : v = w := by unfold nb at h h'; split at h <;> simp_all <;> omega
theorem HT.uq {p q v v' : Int} (h : HT kd W n nm p q v) (h' : HT kd W n nm p q v') : v = v' := by
  obtain ⟨⟨u, w, hu, hw, e1, e2, rfl⟩, h2⟩ := h
  obtain ⟨⟨u', w', hu', hw', e1', e2', rfl⟩, h2'⟩ := h'
  exact nb_anti (h2 u' w' hu' hw' e1' e2') (h2' u w hu hw e1 e2)
theorem HT.sym {p q v : Int} (hs : Sym n W) (h : HT kd W n nm p q v) : HT kd W n nm q p v := by
  obtain ⟨⟨u, w, hu, hw, e1, e2, rfl⟩, h2⟩ := h
  exact ⟨⟨w, u, hw, hu, e2, e1, hs u w hu hw⟩, fun u' w' hu' hw' e1' e2' => by rw [hs u' w' hu' hw']; exact h2 w' u' hw' hu' e2' e1'⟩
theorem HT.congr {p q v : Int} (h : HT kd W n nm p q v) (e : ∀ t, t < n → nm t = nm' t) : HT kd W n nm' p q v := by
  obtain ⟨⟨u, w, hu, hw, e1, e2, rfl⟩, h2⟩ := h
  exact ⟨⟨u, w, hu, hw, by rw [← e u hu]; exact e1, by rw [← e w hw]; exact e2, rfl⟩, fun u' w' hu' hw' e1' e2' => h2 u' w' hu' hw' (by rw [e u' hu']; exact e1') (by rw [e w' hw']; exact e2')⟩
theorem HT.bd {p q v : Int} (hn : n ≤ 12) (hW : Wok W) (h : HT kd W n nm p q v) : 0 ≤ v ∧ v ≤ 10000 := by
  obtain ⟨⟨u, w, hu, hw, e1, e2, rfl⟩, h2⟩ := h
  exact hW _ (by omega)
theorem nb_mm1 {v w z : Int} (h : nb kd v z) : nb kd (mm kd v w) z := by
  unfold nb mm at *
  by_cases k : kd = 0
  · simp only [k, if_pos] at *; omega
  · simp only [k, if_neg, if_false] at *; omega
theorem nb_mm2 {v w z : Int} (h : nb kd w z) : nb kd (mm kd v w) z := by
  unfold nb mm at *
  by_cases k : kd = 0
  · simp only [k, if_pos] at *; omega
  · simp only [k, if_neg, if_false] at *; omega
theorem mm_or (v w : Int) : mm kd v w = v ∨ mm kd v w = w := by unfold mm; split <;> omega
/-- two heaps have been joined -/
theorem HT.join {a b c v1 v2 : Int} (hab : a ≠ b) (hca : c ≠ a) (hcb : c ≠ b) (hj : ∀ t, t < n → nm' t = if nm t = b then a else nm t) (h1 : HT kd W n nm a c v1) (h2 : HT kd W n nm b c v2) : HT kd W n nm' a c (mm kd v1 v2) := by
  have out : ∀ t, t < n → (nm' t = c ↔ nm t = c) := by
    intro t ht
    rw [hj t ht]
    split
    · constructor
      · intro z; exact absurd z.symm hca
      · intro z; omega
    · exact Iff.rfl
  have ina : ∀ t, t < n → (nm' t = a ↔ nm t = a ∨ nm t = b) := by
    intro t ht
    rw [hj t ht]
    split
    · next z => exact ⟨fun _ => Or.inr z, fun _ => rfl⟩
    · next z => exact ⟨Or.inl, fun y => y.resolve_right z⟩
  refine ⟨?_, fun u w hu hw e1 e2 => ?_⟩
  · rcases mm_or (kd := kd) v1 v2 with z | z
    · obtain ⟨⟨u, w, hu, hw, e1, e2, e3⟩, -⟩ := h1
      exact ⟨u, w, hu, hw, (ina u hu).mpr (Or.inl e1), (out w hw).mpr e2, z.trans e3⟩
    · obtain ⟨⟨u, w, hu, hw, e1, e2, e3⟩, -⟩ := h2
      exact ⟨u, w, hu, hw, (ina u hu).mpr (Or.inr e1), (out w hw).mpr e2, z.trans e3⟩
  · rcases (ina u hu).mp e1 with z | z
    · exact nb_mm1 (h1.2 u w hu hw z ((out w hw).mp e2))
    · exact nb_mm2 (h2.2 u w hu hw z ((out w hw).mp e2))
theorem HT.far {a b p q v : Int} (hpa : p ≠ a) (hpb : p ≠ b) (hqa : q ≠ a) (hqb : q ≠ b) (hj : ∀ t, t < n → nm' t = if nm t = b then a else nm t) (h : HT kd W n nm p q v) : HT kd W n nm' p q v := by
  have out : ∀ c, c ≠ a → c ≠ b → ∀ t, t < n → (nm' t = c ↔ nm t = c) := by
    intro c hca hcb t ht
    rw [hj t ht]
    split
    · constructor
      · intro z; exact absurd z.symm hca
      · intro z; omega
    · exact Iff.rfl
  obtain ⟨⟨u, w, hu, hw, e1, e2, e3⟩, h2⟩ := h
  exact ⟨⟨u, w, hu, hw, (out p hpa hpb u hu).mpr e1, (out q hqa hqb w hw).mpr e2, e3⟩, fun u' w' hu' hw' e1' e2' => h2 u' w' hu' hw' ((out p hpa hpb u' hu').mp e1') ((out q hqa hqb w' hw').mp e2')⟩
/-- a pair of heaps by their least things -/
def rp (n : Nat) (nm : Nat → Int) (p q : Nat) : Prop := p < q ∧ q < n ∧ nm p = p ∧ nm q = q
def bef (p q a b : Nat) : Prop := p < a ∨ (p = a ∧ q < b)
def fnd (kd : Nat) (W : Nat → Int) (n : Nat) (nm : Nat → Int) (a b p q : Nat) (v : Int) : Prop := rp n nm p q ∧ bef p q a b ∧ HT kd W n nm p q v ∧ ∀ p' q' v', rp n nm p' q' → bef p' q' a b → HT kd W n nm p' q' v' → v ≤ v' ∧ (bef p' q' p q → v < v')
def non (n : Nat) (nm : Nat → Int) (a b : Nat) : Prop := ∀ p q, rp n nm p q → ¬ bef p q a b
def isLow (kd : Nat) (W : Nat → Int) (n : Nat) (nm : Nat → Int) (p q : Nat) (v : Int) : Prop := rp n nm p q ∧ HT kd W n nm p q v ∧ ∀ p' q' v', rp n nm p' q' → HT kd W n nm p' q' v' → v ≤ v' ∧ (bef p' q' p q → v < v')
theorem isLow.uq {p q p' q' : Nat} {v v' : Int} (h : isLow kd W n nm p q v) (h' : isLow kd W n nm p' q' v') : p = p' ∧ q = q' ∧ v = v' := by
  obtain ⟨a1, a2, a3⟩ := h
  obtain ⟨b1, b2, b3⟩ := h'
  have c1 := a3 p' q' v' b1 b2
  have c2 := b3 p q v a1 a2
  have hv : v = v' := by omega
  unfold bef at c1 c2
  refine ⟨?_, ?_, hv⟩ <;> omega
theorem isLow.congr {p q : Nat} {v : Int} (e : ∀ t, t < n → nm t = nm' t) (h : isLow kd W n nm p q v) : isLow kd W n nm' p q v := by
  have rpe : ∀ p q, rp n nm' p q → rp n nm p q := fun p q z => ⟨z.1, z.2.1, by rw [e p (by have := z.1; have := z.2.1; omega)]; exact z.2.2.1, by rw [e q z.2.1]; exact z.2.2.2⟩
  obtain ⟨⟨r1, r2, r3, r4⟩, a2, a3⟩ := h
  exact ⟨⟨r1, r2, by rw [← e p (by omega)]; exact r3, by rw [← e q r2]; exact r4⟩, a2.congr e, fun p' q' v' z1 z2 => a3 p' q' v' (rpe p' q' z1) (z2.congr (fun t ht => (e t ht).symm))⟩
theorem bef_s {p q a b : Nat} : bef p q a (b + 1) ↔ bef p q a b ∨ (p = a ∧ q = b) := by unfold bef; omega
theorem non.hit {a b : Nat} {w : Int} (h : non n nm a b) (hr : rp n nm a b) (hw : HT kd W n nm a b w) : fnd kd W n nm a (b + 1) a b w := by
  refine ⟨hr, bef_s.mpr (Or.inr ⟨rfl, rfl⟩), hw, fun p' q' v' z1 z2 z3 => ?_⟩
  rcases bef_s.mp z2 with y | ⟨rfl, rfl⟩
  · exact absurd y (h p' q' z1)
  · have := z3.uq hw
    exact ⟨by omega, fun y => by unfold bef at y; omega⟩
theorem fnd.hit {a b p q : Nat} {v w : Int} (h : fnd kd W n nm a b p q v) (hr : rp n nm a b) (hw : HT kd W n nm a b w) (hlt : w < v) : fnd kd W n nm a (b + 1) a b w := by
  obtain ⟨h1, h2, h3, h4⟩ := h
  refine ⟨hr, bef_s.mpr (Or.inr ⟨rfl, rfl⟩), hw, fun p' q' v' z1 z2 z3 => ?_⟩
  rcases bef_s.mp z2 with y | ⟨rfl, rfl⟩
  · have := h4 p' q' v' z1 y z3
    exact ⟨by omega, fun _ => by omega⟩
  · have := z3.uq hw
    exact ⟨by omega, fun y => by unfold bef at y; omega⟩
theorem fnd.pass {a b p q : Nat} {v w : Int} (h : fnd kd W n nm a b p q v) (hw : HT kd W n nm a b w) (hle : v ≤ w) : fnd kd W n nm a (b + 1) p q v := by
  obtain ⟨h1, h2, h3, h4⟩ := h
  refine ⟨h1, bef_s.mpr (Or.inl h2), h3, fun p' q' v' z1 z2 z3 => ?_⟩
  rcases bef_s.mp z2 with y | ⟨rfl, rfl⟩
  · exact h4 p' q' v' z1 y z3
  · have := z3.uq hw
    exact ⟨by omega, fun y => by unfold bef at y h2; omega⟩
theorem fnd.mv {a b a' b' p q : Nat} {v : Int} (h : fnd kd W n nm a b p q v) (e : ∀ p q, rp n nm p q → (bef p q a b ↔ bef p q a' b')) : fnd kd W n nm a' b' p q v := by
  obtain ⟨h1, h2, h3, h4⟩ := h
  exact ⟨h1, (e p q h1).mp h2, h3, fun p' q' v' z1 z2 z3 => h4 p' q' v' z1 ((e p' q' z1).mpr z2) z3⟩
theorem non.mv {a b a' b' : Nat} (h : non n nm a b) (e : ∀ p q, rp n nm p q → (bef p q a b ↔ bef p q a' b')) : non n nm a' b' := fun p q z y => h p q z ((e p q z).mpr y)
theorem fnd.low {b p q : Nat} {v : Int} (h : fnd kd W n nm n b p q v) : isLow kd W n nm p q v := by
  obtain ⟨h1, h2, h3, h4⟩ := h
  exact ⟨h1, h3, fun p' q' v' z1 z2 => h4 p' q' v' z1 (by obtain ⟨y1, y2, -⟩ := z1; unfold bef; omega) z2⟩
end
theorem sumN_one {n j : Nat} {F G : Nat → Int} (hj : j < n) (he : ∀ i, i < n → i ≠ j → F i = G i) : sumN n F = sumN n G + (F j - G j) := by
  induction n with
  | zero => omega
  | succ n ih =>
    simp only [sumN]
    by_cases e : j = n
    · subst e
      rw [sumN_congr (fun i hi => he i (by omega) (by omega))]; omega
    · rw [ih (by omega) (fun i hi hi2 => he i (by omega) hi2), he n (by omega) (fun z => e z.symm)]; omega
/-- the joins so far are a tree's -/
def TR (kd : Nat) (W : Nat → Int) (n : Nat) (O T H : Nat → Int) (L : Nat) : Prop := ∀ i, i < L → ∃ p q : Nat, O i = p ∧ T i = q ∧ isLow kd W n (jn O T i) p q (H i)
theorem TR.uq {kd : Nat} {W : Nat → Int} {n : Nat} {O T H O' T' H' : Nat → Int} : ∀ {L : Nat}, TR kd W n O T H L → TR kd W n O' T' H' L → Eqn L O O' ∧ Eqn L T T' ∧ Eqn L H H' := by
  intro L
  induction L with
  | zero => intro _ _; exact ⟨fun i hi => by omega, fun i hi => by omega, fun i hi => by omega⟩
  | succ L ih =>
    intro h h'
    obtain ⟨e1, e2, e3⟩ := ih (fun i hi => h i (by omega)) (fun i hi => h' i (by omega))
    obtain ⟨p, q, a1, a2, a3⟩ := h L (by omega)
    obtain ⟨p', q', b1, b2, b3⟩ := h' L (by omega)
    have c := (a3.congr (fun t _ => jn_congr e1 e2 t L (Nat.le_refl _))).uq b3
    refine ⟨fun i hi => ?_, fun i hi => ?_, fun i hi => ?_⟩ <;> (by_cases z : i = L) 
    · subst z; rw [a1, b1, c.1]
    · exact e1 i (by omega)
    · subst z; rw [a2, b2, c.2.1]
    · exact e2 i (by omega)
    · subst z; exact c.2.2
    · exact e3 i (by omega)
theorem TR.congr {kd : Nat} {W : Nat → Int} {n : Nat} {O T H O' T' H' : Nat → Int} {L : Nat} (h : TR kd W n O T H L) (e1 : Eqn L O O') (e2 : Eqn L T T') (e3 : Eqn L H H') : TR kd W n O' T' H' L := by
  intro i hi
  obtain ⟨p, q, a1, a2, a3⟩ := h i hi
  exact ⟨p, q, by rw [← e1 i hi]; exact a1, by rw [← e2 i hi]; exact a2, by rw [← e3 i hi]; exact a3.congr (fun t _ => jn_congr (fun j hj => e1 j (by omega)) (fun j hj => e2 j (by omega)) t i (Nat.le_refl _))⟩
/-- how many heaps are left -/
theorem TR.cnt {kd : Nat} {W : Nat → Int} {n : Nat} {O T H : Nat → Int} : ∀ {L : Nat}, TR kd W n O T H L → hct n (fun t => decide (jn O T L t = t)) = n - L ∧ (1 ≤ n → jn O T L 0 = 0) := by
  intro L
  induction L with
  | zero =>
    intro _
    refine ⟨?_, fun _ => rfl⟩
    have : ∀ m : Nat, sumN m (fun t => if decide (jn O T 0 t = t) = true then 1 else 0) = m := by
      intro m
      induction m with
      | zero => rfl
      | succ m ih => simp only [sumN, ih]; simp [jn]
    have := this n
    show sumN n (fun t => if decide (jn O T 0 t = t) = true then 1 else 0) = _
    omega
  | succ L ih =>
    intro h
    obtain ⟨c1, c2⟩ := ih (fun i hi => h i (by omega))
    obtain ⟨p, q, a1, a2, ⟨r1, r2, r3, r4⟩, -⟩ := h L (by omega)
    constructor
    · have := sumN_one (n := n) (j := q) (F := fun t => if decide (jn O T (L + 1) t = t) = true then 1 else 0) (G := fun t => if decide (jn O T L t = t) = true then 1 else 0) r2 (fun i hi hiq => by
        have : (jn O T (L + 1) i = i ↔ jn O T L i = i) := by
          simp only [jn]
          split
          · next z =>
            rw [a2] at z
            rw [z, a1]
            constructor
            · intro y
              have : i = p := by omega
              subst this
              rw [r3] at z; omega
            · intro y; omega
          · exact Iff.rfl
        simp only [this])
      have e1 : jn O T (L + 1) q = p := by simp only [jn]; rw [a2, if_pos r4, a1]
      simp only [e1, r4] at this
      rw [if_neg (by simp; omega), if_pos (by simp)] at this
      have c1' : sumN n (fun t => if decide (jn O T L t = t) = true then 1 else 0) = n - L := c1
      show sumN n (fun t => if decide (jn O T (L + 1) t = t) = true then 1 else 0) = _
      omega
    · intro hn1
      have := c2 hn1
      simp only [jn]
      rw [if_neg (by omega)]; exact this
theorem TR.pair {kd : Nat} {W : Nat → Int} {n : Nat} {O T H : Nat → Int} {L : Nat} (h : TR kd W n O T H L) (hL : L + 1 < n) : ∃ q, rp n (jn O T L) 0 q := by
  obtain ⟨c1, c2⟩ := h.cnt
  refine Classical.byContradiction (fun hno => ?_)
  have := sumN_one (n := n) (j := 0) (F := fun t => if decide (jn O T L t = t) = true then 1 else 0) (G := fun _ => 0) (by omega) (fun i hi hi0 => by
    rw [if_neg]
    intro z
    exact hno ⟨i, by omega, hi, c2 (by omega), by simpa using z⟩)
  rw [sumN_zero (fun _ _ => rfl)] at this
  unfold hct at c1
  rw [c1] at this
  split at this <;> omega
/-- what a join makes of the names of heaps -/
theorem jn_s {O T : Nat → Int} {L : Nat} {p q : Nat} (e1 : O L = p) (e2 : T L = q) (t : Nat) : jn O T (L + 1) t = if jn O T L t = q then (p : Int) else jn O T L t := by
  simp only [jn]; rw [e1, e2]
