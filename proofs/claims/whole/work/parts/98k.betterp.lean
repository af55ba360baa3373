/-! better, pure part: costs by labels some of which may be nobody's; the best single move; how many moves there can be -/
theorem sum_lab0 {n k : Nat} {f : Nat → Int} (hl : ∀ i, i < n → 0 ≤ f i ∧ f i < k) (T : (Nat → Bool) → Int) (hT : ∀ p : Nat → Bool, (∀ i, i < n → p i = false) → T p = 0) : sumN k (fun u => T (pv f u)) = sumN n (fun t => if (∀ j, j < t → f j ≠ f t) then T (pv f (f t)) else 0) := by
  have e1 : sumN k (fun u => T (pv f u)) = sumN k (fun u => sumN n (fun t => if f t = (u : Int) ∧ ∀ j, j < t → f j ≠ (u : Int) then T (pv f u) else 0)) := sumN_congr (fun u hu => by
    by_cases z : ∃ t, t < n ∧ f t = (u : Int)
    · exact ((first_one n).1 z).symm
    · have z' : ∀ t, t < n → f t ≠ (u : Int) := fun t ht y => z ⟨t, ht, y⟩
      rw [(first_one n).2 z']
      exact hT _ (fun i hi => by unfold pv; simp [z' i hi]))
  rw [e1, sumN_comm]
  refine sumN_congr (fun t ht => ?_)
  have h1 := hl t ht
  have e2 : sumN k (fun u => if f t = (u : Int) ∧ ∀ j, j < t → f j ≠ (u : Int) then T (pv f u) else 0) = sumN k (fun u => if f t = (u : Int) then (if ∀ j, j < t → f j ≠ (u : Int) then T (pv f u) else 0) else 0) := sumN_congr (fun u hu => by
    by_cases z : f t = (u : Int)
    · by_cases y : ∀ j, j < t → f j ≠ (u : Int)
      · rw [if_pos ⟨z, y⟩, if_pos z, if_pos y]
      · rw [if_neg (fun w => y w.2), if_pos z, if_neg y]
    · rw [if_neg (fun w => z w.1), if_neg z])
  rw [e2, sumN_pick h1.1 h1.2 (fun u => if ∀ j, j < t → f j ≠ (u : Int) then T (pv f u) else 0)]
  have e3 : (((f t).toNat : Nat) : Int) = f t := by omega
  simp only [e3]
theorem cst_lab0 {n k : Nat} {W X K f g : Nat → Int} {gl : Int} (hn : n ≤ 12) (hl : ∀ i, i < n → 0 ≤ f i ∧ f i < k) (hN : RN n f g) : cst n W X K gl g = cfold gl (if gl = 3 then grd n X K else 0) (fun u => hco n W X K gl (pv f u)) k := by
  have hm0 := mx_nonneg g n
  have hgl : ∀ i, i < n → 0 ≤ g i ∧ g i < ((mx g n).toNat : Nat) := fun i hi => by
    have := hN.1 i hi; have := lt_mx (g := g) hi; omega
  have hgo : ∀ u : Nat, u < (mx g n).toNat → ∃ i, i < n ∧ g i = u := fun u hu => hN.1.onto u (by omega) (by omega)
  have same : ∀ t, t < n → hco n W X K gl (pv g (g t)) = hco n W X K gl (pv f (f t)) := fun t ht =>
    hco_congr hn (fun _ _ => rfl) (fun _ _ => rfl) (fun _ _ => rfl) (fun i hi => by
      unfold pv
      have := hN.2 i t hi ht
      by_cases z : g i = g t
      · simp [z, this.mp z]
      · have z' : ¬ f i = f t := fun y => z (this.mpr y)
        simp [z, z']) gl
  unfold cst
  by_cases g2 : gl = 2
  · subst g2
    rw [if_neg (by decide), cfold_2, cfold_2]
    apply Int.le_antisymm
    · refine maxN_le (maxN_nonneg _ _) (fun v hv => ?_)
      obtain ⟨t, ht, et⟩ := hgo v hv
      have h1 := hl t ht
      have e3 : (((f t).toNat : Nat) : Int) = f t := by omega
      rw [← et, same t ht, ← e3]
      exact le_maxN (F := fun u : Nat => hco n W X K 2 (pv f u)) (by omega)
    · refine maxN_le (maxN_nonneg _ _) (fun v hv => ?_)
      by_cases z : ∃ t, t < n ∧ f t = (v : Int)
      · obtain ⟨t, ht, et⟩ := z
        have h1 := hgl t ht
        have e3 : (((g t).toNat : Nat) : Int) = g t := by omega
        rw [← et, ← same t ht, ← e3]
        exact le_maxN (F := fun u : Nat => hco n W X K 2 (pv g u)) (by omega)
      · have z' : ∀ t, t < n → f t ≠ (v : Int) := fun t ht y => z ⟨t, ht, y⟩
        rw [hco_none (fun i hi => by unfold pv; simp [z' i hi])]
        exact maxN_nonneg _ _
  · rw [cfold_s g2, cfold_s g2]
    congr 1
    rw [sum_lab hgl hgo (hco n W X K gl), sum_lab0 hl (hco n W X K gl) (fun p hp => hco_none hp)]
    refine sumN_congr (fun t ht => ?_)
    have hf : (∀ j, j < t → g j ≠ g t) ↔ (∀ j, j < t → f j ≠ f t) := by
      constructor
      · intro h j hj y; exact h j hj ((hN.2 j t (by omega) ht).mpr y)
      · intro h j hj y; exact h j hj ((hN.2 j t (by omega) ht).mp y)
    by_cases z : ∀ j, j < t → g j ≠ g t
    · rw [if_pos z, if_pos (hf.mp z), same t ht]
    · rw [if_neg z, if_neg (fun y => z (hf.mpr y))]
/-- the cost when thing t lies in heap v -/
def mc (n : Nat) (W X K : Nat → Int) (g : Int) (f : Nat → Int) (t v : Nat) : Int := cfold g (if g = 3 then grd n X K else 0) (fun u => hco n W X K g (pv (ups f t v) u)) ((mx f n).toNat + 1)
/-- whether that is a move -/
def okm (n : Nat) (f : Nat → Int) (t v : Nat) : Bool := decide ((v : Int) ≠ f t ∧ ¬ ((v : Int) = mx f n ∧ ∀ b, b < n → b ≠ t → f b ≠ f t))
def bs1 (C : Nat → Nat → Int) (ok : Nat → Nat → Bool) (t : Nat) : Nat → Int × Int × Int → Int × Int × Int
  | 0, st => st
  | v + 1, st => if ok t v = true ∧ C t v < (bs1 C ok t v st).1 then (C t v, (t : Int), (v : Int)) else bs1 C ok t v st
def bs2 (C : Nat → Nat → Int) (ok : Nat → Nat → Bool) (m : Nat) (st : Int × Int × Int) : Nat → Int × Int × Int
  | 0 => st
  | t + 1 => bs1 C ok t m (bs2 C ok m st t)
def BI (C : Nat → Nat → Int) (ok : Nat → Nat → Bool) (c0 : Int) (Q : Nat → Nat → Prop) (st : Int × Int × Int) : Prop :=
  (st = (c0, -1, -1) ∨ ∃ t v : Nat, Q t v ∧ ok t v = true ∧ st = (C t v, (t : Int), (v : Int)) ∧ C t v < c0) ∧ st.1 ≤ c0 ∧ ∀ t v, Q t v → ok t v = true → st.1 ≤ C t v
theorem BI.step {C : Nat → Nat → Int} {ok : Nat → Nat → Bool} {c0 : Int} {Q Q' : Nat → Nat → Prop} {st : Int × Int × Int} (h : BI C ok c0 Q st) {t v : Nat} (hQ : ∀ a b, Q' a b ↔ Q a b ∨ (a = t ∧ b = v)) : BI C ok c0 Q' (if ok t v = true ∧ C t v < st.1 then (C t v, (t : Int), (v : Int)) else st) := by
  obtain ⟨h1, h2, h3⟩ := h
  by_cases z : ok t v = true ∧ C t v < st.1
  · rw [if_pos z]
    refine ⟨Or.inr ⟨t, v, (hQ t v).mpr (Or.inr ⟨rfl, rfl⟩), z.1, rfl, by omega⟩, by show C t v ≤ c0; omega, fun a b hab ho => ?_⟩
    show C t v ≤ C a b
    rcases (hQ a b).mp hab with y | ⟨rfl, rfl⟩
    · have := h3 a b y ho; omega
    · omega
  · rw [if_neg z]
    refine ⟨?_, h2, fun a b hab ho => ?_⟩
    · rcases h1 with y | ⟨a, b, y1, y2⟩
      · exact Or.inl y
      · exact Or.inr ⟨a, b, (hQ a b).mpr (Or.inl y1), y2⟩
    · rcases (hQ a b).mp hab with y | ⟨rfl, rfl⟩
      · exact h3 a b y ho
      · rcases Int.lt_or_le (C a b) st.1 with w | w
        · exact absurd ⟨ho, w⟩ z
        · exact w
theorem bs1_BI {C : Nat → Nat → Int} {ok : Nat → Nat → Bool} {c0 : Int} {Q : Nat → Nat → Prop} {st : Int × Int × Int} (h : BI C ok c0 Q st) {t : Nat} : ∀ m, BI C ok c0 (fun a b => Q a b ∨ (a = t ∧ b < m)) (bs1 C ok t m st) := by
  intro m
  induction m with
  | zero =>
    obtain ⟨h1, h2, h3⟩ := h
    refine ⟨?_, h2, fun a b hab ho => ?_⟩
    · rcases h1 with y | ⟨a, b, y1, y2⟩
      · exact Or.inl y
      · exact Or.inr ⟨a, b, Or.inl y1, y2⟩
    · rcases hab with y | y
      · exact h3 a b y ho
      · omega
  | succ m ih =>
    exact ih.step (t := t) (v := m) (fun a b => by
      constructor
      · rintro (y | ⟨y1, y2⟩)
        · exact Or.inl (Or.inl y)
        · by_cases w : b = m
          · exact Or.inr ⟨y1, w⟩
          · exact Or.inl (Or.inr ⟨y1, by omega⟩)
      · rintro ((y | ⟨y1, y2⟩) | ⟨y1, y2⟩)
        · exact Or.inl y
        · exact Or.inr ⟨y1, by omega⟩
        · exact Or.inr ⟨y1, by omega⟩)
theorem BI.mono {C : Nat → Nat → Int} {ok : Nat → Nat → Bool} {c0 : Int} {Q Q' : Nat → Nat → Prop} {st : Int × Int × Int} (h : BI C ok c0 Q st) (hQ : ∀ a b, Q a b ↔ Q' a b) : BI C ok c0 Q' st := by
  obtain ⟨h1, h2, h3⟩ := h
  refine ⟨?_, h2, fun a b hab ho => h3 a b ((hQ a b).mpr hab) ho⟩
  rcases h1 with y | ⟨a, b, y1, y2⟩
  · exact Or.inl y
  · exact Or.inr ⟨a, b, (hQ a b).mp y1, y2⟩
theorem bs2_BI {C : Nat → Nat → Int} {ok : Nat → Nat → Bool} {c0 : Int} {m : Nat} : ∀ n, BI C ok c0 (fun a b => a < n ∧ b < m) (bs2 C ok m (c0, -1, -1) n) := by
  intro n
  induction n with
  | zero => exact ⟨Or.inl rfl, Int.le_refl _, fun a b hab _ => by omega⟩
  | succ n ih =>
    refine (bs1_BI ih (t := n) m).mono (fun a b => ?_)
    constructor
    · rintro (y | y)
      · exact ⟨by omega, y.2⟩
      · exact ⟨by omega, y.2⟩
    · rintro ⟨y1, y2⟩
      by_cases w : a = n
      · exact Or.inr ⟨w, y2⟩
      · exact Or.inl ⟨by omega, y2⟩
theorem bs1_congr {C C' : Nat → Nat → Int} {ok ok' : Nat → Nat → Bool} {t : Nat} {st : Int × Int × Int} : ∀ m, (∀ v, v < m → C t v = C' t v ∧ ok t v = ok' t v) → bs1 C ok t m st = bs1 C' ok' t m st := by
  intro m
  induction m with
  | zero => intro _; rfl
  | succ m ih =>
    intro h
    simp only [bs1]
    rw [ih (fun v hv => h v (by omega)), (h m (by omega)).1, (h m (by omega)).2]
theorem bs2_congr {C C' : Nat → Nat → Int} {ok ok' : Nat → Nat → Bool} {m : Nat} {st : Int × Int × Int} : ∀ n, (∀ t, t < n → ∀ v, v < m → C t v = C' t v ∧ ok t v = ok' t v) → bs2 C ok m st n = bs2 C' ok' m st n := by
  intro n
  induction n with
  | zero => intro _; rfl
  | succ n ih =>
    intro h
    simp only [bs2]
    rw [ih (fun t ht => h t (by omega)), bs1_congr m (h n (by omega))]
def BS (n : Nat) (W X K : Nat → Int) (g : Int) (f : Nat → Int) : Int × Int × Int := bs2 (mc n W X K g f) (okm n f) ((mx f n).toNat + 1) (cst n W X K g f, -1, -1) n
theorem ups_eqn {n : Nat} {f f' : Nat → Int} (e : Eqn n f f') (t : Nat) (v : Int) : Eqn n (ups f t v) (ups f' t v) := fun i hi => by rw [ups_at, ups_at, e i hi]
theorem mc_congr {n : Nat} {W X K f f' : Nat → Int} {g : Int} (hn : n ≤ 12) (e : Eqn n f f') (t v : Nat) : mc n W X K g f t v = mc n W X K g f' t v := by
  unfold mc
  rw [mx_congr e]
  exact cfold_congr (fun u _ => hco_congr hn (fun _ _ => rfl) (fun _ _ => rfl) (fun _ _ => rfl) (fun i hi => by unfold pv; rw [ups_eqn e t v i hi]) g)
theorem okm_congr {n : Nat} {f f' : Nat → Int} (e : Eqn n f f') {t : Nat} (ht : t < n) (v : Nat) : okm n f t v = okm n f' t v := by
  unfold okm
  have h1 : (∀ b, b < n → b ≠ t → f b ≠ f t) ↔ (∀ b, b < n → b ≠ t → f' b ≠ f' t) := by
    constructor
    · intro h b hb hbt; rw [← e b hb, ← e t ht]; exact h b hb hbt
    · intro h b hb hbt; rw [e b hb, e t ht]; exact h b hb hbt
  rw [mx_congr e]
  exact decide_eq_decide.mpr (and_congr (by rw [e t ht]) (not_congr (and_congr Iff.rfl h1)))
theorem BS_congr {n : Nat} {W X K f f' : Nat → Int} {g : Int} (hn : n ≤ 12) (e : Eqn n f f') : BS n W X K g f = BS n W X K g f' := by
  unfold BS
  rw [mx_congr e, cst_congr hn (fun _ _ => rfl) (fun _ _ => rfl) (fun _ _ => rfl) e g]
  exact bs2_congr n (fun t ht v _ => ⟨mc_congr hn e t v, okm_congr e ht v⟩)
/-- so many best moves lead from one parting to another, where there is none left -/
def Pth (n : Nat) (W X K : Nat → Int) (g : Int) : Nat → (Nat → Int) → (Nat → Int) → Prop
  | 0, f, f' => (BS n W X K g f).2.1 = -1 ∧ Eqn n f f'
  | m + 1, f, f' => ∃ (t v : Nat) (g1 : Nat → Int), (BS n W X K g f).2 = ((t : Int), (v : Int)) ∧ RN n (ups f t v) g1 ∧ Pth n W X K g m g1 f'
theorem Pth.uq {n : Nat} {W X K : Nat → Int} {g : Int} (hn : n ≤ 12) : ∀ (m m' : Nat) (f f0 f' f0' : Nat → Int), Eqn n f f0 → Pth n W X K g m f f' → Pth n W X K g m' f0 f0' → m = m' ∧ Eqn n f' f0' := by
  intro m
  induction m with
  | zero =>
    intro m' f f0 f' f0' e h h'
    have eb := BS_congr (W := W) (X := X) (K := K) (g := g) hn e
    cases m' with
    | zero => exact ⟨rfl, fun i hi => by rw [← h.2 i hi, e i hi, h'.2 i hi]⟩
    | succ m' =>
      obtain ⟨t, v, g1, b1, -⟩ := h'
      have := h.1
      rw [eb, b1] at this
      have : (t : Int) = -1 := this
      omega
  | succ m ih =>
    intro m' f f0 f' f0' e h h'
    have eb := BS_congr (W := W) (X := X) (K := K) (g := g) hn e
    obtain ⟨t, v, g1, b1, b2, b3⟩ := h
    cases m' with
    | zero =>
      have := h'.1
      rw [← eb, b1] at this
      have : (t : Int) = -1 := this
      omega
    | succ m' =>
      obtain ⟨t', v', g1', c1, c2, c3⟩ := h'
      rw [eb, c1] at b1
      have b1a : (t' : Int) = t := congrArg Prod.fst b1
      have b1b : (v' : Int) = v := congrArg Prod.snd b1
      have et : t' = t := by omega
      have ev : v' = v := by omega
      subst et; subst ev
      have eu := ups_eqn e t' (v' : Int)
      have eg : Eqn n g1 g1' := RN.same b2 c2 (fun i j hi hj => by rw [eu i hi, eu j hj])
      obtain ⟨z1, z2⟩ := ih m' g1 g1' f' f0' eg b3 c3
      exact ⟨by omega, z2⟩
