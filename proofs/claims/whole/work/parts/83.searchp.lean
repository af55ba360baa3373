/-! the best of many names -/
def MXL : Int := 9223372036854775807
def Qn (n : Nat) (lo hi : Int) (x : Nat → Int) : Prop := RGS n x ∧ lo ≤ mx x n ∧ mx x n ≤ hi
def BSt (n : Nat) (lo hi : Int) (C : (Nat → Int) → Int) (none : Int) (A : (Nat → Int) → Prop) (L : Int) (b : Nat → Int) : Prop :=
  (L = none ∧ ∀ x, Qn n lo hi x → ¬ A x) ∨ (L ≠ none ∧ Qn n lo hi b ∧ A b ∧ C b = L ∧ ∀ x, Qn n lo hi x → A x → L ≤ C x ∧ (C x = L → Eqn n x b ∨ ahead n b x))
section
variable {n : Nat} {lo hi : Int} {C : (Nat → Int) → Int} {none : Int}
theorem BSt.mono {A A' : (Nat → Int) → Prop} {L : Int} {b : Nat → Int} (h : BSt n lo hi C none A L b) (e : ∀ x, Qn n lo hi x → (A x ↔ A' x)) : BSt n lo hi C none A' L b := by
  rcases h with ⟨h1, h2⟩ | ⟨h0, h1, h2, h3, h4⟩
  · exact Or.inl ⟨h1, fun x hx y => h2 x hx ((e x hx).mpr y)⟩
  · exact Or.inr ⟨h0, h1, (e b h1).mp h2, h3, fun x hx y => h4 x hx ((e x hx).mpr y)⟩
theorem ahead_asym {n : Nat} {f g : Nat → Int} (h : ahead n f g) (h' : ahead n g f) : False := by
  obtain ⟨i, hi, a, b⟩ := h
  obtain ⟨j, hj, c, d⟩ := h'
  rcases Nat.lt_trichotomy i j with z | z | z
  · have := d i z; omega
  · subst z; omega
  · have := b j z; omega
theorem ahead_irr {n : Nat} {f g : Nat → Int} (h : ahead n f g) (h' : Eqn n f g) : False := by
  obtain ⟨i, hi, a, b⟩ := h
  have := h' i hi; omega
theorem ahead_congr {n : Nat} {f f' g g' : Nat → Int} (e1 : Eqn n f f') (e2 : Eqn n g g') (h : ahead n f g) : ahead n f' g' := by
  obtain ⟨i, hi, a, b⟩ := h
  exact ⟨i, hi, by rw [← e1 i hi, ← e2 i hi]; exact a, fun j hj => by rw [← e1 j (by omega), ← e2 j (by omega)]; exact b j hj⟩
theorem Qn.congr {x y : Nat → Int} (h : Qn n lo hi x) (e : Eqn n x y) : Qn n lo hi y := ⟨h.1.congr e, by rw [← mx_congr e]; exact h.2.1, by rw [← mx_congr e]; exact h.2.2⟩
/-- the best is one alone -/
theorem BSt.uq {none' : Int} {L L' : Int} {b b' : Nat → Int} (hq : ∃ x, Qn n lo hi x) (h : BSt n lo hi C none (fun _ => True) L b) (h' : BSt n lo hi C none' (fun _ => True) L' b') : L = L' ∧ Eqn n b b' ∧ Qn n lo hi b := by
  obtain ⟨x, hx⟩ := hq
  rcases h with ⟨h1, h2⟩ | ⟨h0, h1, h2, h3, h4⟩
  · exact absurd trivial (h2 x hx)
  · rcases h' with ⟨k1, k2⟩ | ⟨k0, k1, k2, k3, k4⟩
    · exact absurd trivial (k2 x hx)
    · have a1 := h4 b' k1 trivial
      have a2 := k4 b h1 trivial
      have e : L = L' := by omega
      refine ⟨e, ?_, h1⟩
      rcases a1.2 (by omega) with z | z
      · exact fun i hi => (z i hi).symm
      · rcases a2.2 (by omega) with y | y
        · exact y
        · exact (ahead_asym z y).elim
/-- one more name, behind all others -/
theorem BSt.add {A A' : (Nat → Int) → Prop} {L : Int} {b p : Nat → Int} (hC : ∀ x y, Eqn n x y → C x = C y) (h : BSt n lo hi C none A L b) (hp : Qn n lo hi p) (hA : ∀ x, Qn n lo hi x → (A' x ↔ A x ∨ Eqn n x p)) (hb : ∀ x, Qn n lo hi x → A x → ahead n x p) (hn : C p ≠ none) :
    ((L = none ∨ C p < L) → ∀ b', Eqn n b' p → BSt n lo hi C none A' (C p) b') ∧ (L ≠ none → L ≤ C p → BSt n lo hi C none A' L b) := by
  constructor
  · intro hlt b' hb'
    have eb : Eqn n p b' := fun i hi => (hb' i hi).symm
    have qb' := hp.congr eb
    refine Or.inr ⟨hn, qb', (hA b' qb').mpr (Or.inr hb'), hC _ _ hb', fun x hx hax => ?_⟩
    rcases (hA x hx).mp hax with z | z
    · rcases h with ⟨h1, h2⟩ | ⟨h0, h1, h2, h3, h4⟩
      · exact absurd z (h2 x hx)
      · have := h4 x hx z
        have hlt' : C p < L := hlt.resolve_left h0
        exact ⟨by omega, fun y => by omega⟩
    · rw [hC x p z]
      exact ⟨Int.le_refl _, fun _ => Or.inl (fun i hi => (z i hi).trans (eb i hi))⟩
  · intro h0' hle
    rcases h with ⟨h1, h2⟩ | ⟨h0, h1, h2, h3, h4⟩
    · exact absurd h1 h0'
    · refine Or.inr ⟨h0, h1, (hA b h1).mpr (Or.inl h2), h3, fun x hx hax => ?_⟩
      rcases (hA x hx).mp hax with z | z
      · exact h4 x hx z
      · rw [hC x p z]
        exact ⟨hle, fun _ => Or.inr (ahead_congr (fun _ _ => rfl) (fun i hi => (z i hi).symm) (hb b h1 h2))⟩
/-- names that can't better it are passed over -/
theorem BSt.pass {A A' : (Nat → Int) → Prop} {L : Int} {b : Nat → Int} (h : BSt n lo hi C none A L b) (h0' : L ≠ none) (hA : ∀ x, Qn n lo hi x → A x → A' x) (hn : ∀ x, Qn n lo hi x → A' x → ¬ A x → L ≤ C x ∧ ∀ y, Qn n lo hi y → A y → ahead n y x) : BSt n lo hi C none A' L b := by
  rcases h with ⟨h1, h2⟩ | ⟨h0, h1, h2, h3, h4⟩
  · exact absurd h1 h0'
  · refine Or.inr ⟨h0, h1, hA b h1 h2, h3, fun x hx hax => ?_⟩
    by_cases z : A x
    · exact h4 x hx z
    · have := hn x hx hax z
      exact ⟨this.1, fun _ => Or.inr (this.2 b h1 h2)⟩
end
theorem ahead_s {t : Nat} {x p : Nat → Int} {v : Int} : ahead (t + 1) x (ups p t v) ↔ ahead t x p ∨ (Eqn t x p ∧ x t < v) := by
  constructor
  · rintro ⟨i, hi, a, b⟩
    by_cases z : i = t
    · subst z
      rw [ups_at, if_pos rfl] at a
      exact Or.inr ⟨fun j hj => by have := b j hj; rw [ups_at, if_neg (by omega)] at this; exact this, a⟩
    · rw [ups_at, if_neg z] at a
      exact Or.inl ⟨i, by omega, a, fun j hj => by have := b j hj; rw [ups_at, if_neg (by omega)] at this; exact this⟩
  · rintro (⟨i, hi, a, b⟩ | ⟨a, b⟩)
    · exact ⟨i, by omega, by rw [ups_at, if_neg (by omega)]; exact a, fun j hj => by rw [ups_at, if_neg (by omega)]; exact b j hj⟩
    · exact ⟨t, by omega, by rw [ups_at, if_pos rfl]; exact b, fun j hj => by rw [ups_at, if_neg (by omega)]; exact a j hj⟩
theorem Eqn_s {t : Nat} {x p : Nat → Int} {v : Int} : Eqn (t + 1) x (ups p t v) ↔ Eqn t x p ∧ x t = v := by
  constructor
  · intro h
    exact ⟨fun i hi => by have := h i (by omega); rw [ups_at, if_neg (by omega)] at this; exact this, by have := h t (by omega); rw [ups_at, if_pos rfl] at this; exact this⟩
  · rintro ⟨h1, h2⟩ i hi
    rw [ups_at]
    by_cases z : i = t
    · rw [if_pos z, z]; exact h2
    · rw [if_neg z]; exact h1 i (by omega)
theorem ahead_ext {t n : Nat} {y p x : Nat → Int} (ht : t ≤ n) (h : ahead t y p) (e : Eqn t x p) : ahead n y x := by
  obtain ⟨i, hi, a, b⟩ := h
  exact ⟨i, by omega, by rw [e i hi]; exact a, fun j hj => by rw [e j (by omega)]; exact b j hj⟩
theorem mx_ext {n t : Nat} {x : Nat → Int} (hx : RGS n x) (ht : t ≤ n) : mx x n ≤ mx x t + ((n - t : Nat) : Int) := by
  induction n with
  | zero => have : t = 0 := by omega
            subst this; simp
  | succ n ih =>
    by_cases e : t = n + 1
    · subst e; simp
    · have h1 := ih (hx.sub (by omega)) (by omega); have h2 := (hx n (by omega)).2
      simp only [mx]
      omega
/-- the widest pair of a heap among the first t things -/
def PW (W : Nat → Int) (t : Nat) (p : Nat → Int) : Int := maxN t (fun a => maxN a (fun b => if p a = p b then W (12 * a + b) else 0))
theorem PW_congr {W : Nat → Int} {t : Nat} {p q : Nat → Int} (e : Eqn t p q) : PW W t p = PW W t q :=
  maxN_congr (fun a ha => maxN_congr (fun b hb => by rw [e a ha, e b (by omega)]))
theorem maxN_mono {m n : Nat} (F : Nat → Int) (h : m ≤ n) : maxN m F ≤ maxN n F := maxN_le (maxN_nonneg _ _) (fun i hi => le_maxN (by omega))
theorem PW_mono {W : Nat → Int} {t n : Nat} (h : t ≤ n) (p : Nat → Int) : PW W t p ≤ PW W n p := maxN_mono _ h
theorem PW_bd {W : Nat → Int} (hW : Wok W) {t : Nat} (ht : t ≤ 12) (p : Nat → Int) : 0 ≤ PW W t p ∧ PW W t p ≤ 10000 :=
  ⟨maxN_nonneg _ _, maxN_le (by omega) (fun a ha => maxN_le (by omega) (fun b hb => by
    have := hW (12 * a + b) (by omega)
    split <;> omega))⟩
theorem PW_rwd {W : Nat → Int} {n : Nat} {f : Nat → Int} (hS : Sym n W) : PW W n f = rwd n W f := by
  apply Int.le_antisymm
  · refine maxN_le (maxN_nonneg _ _) (fun a ha => maxN_le (maxN_nonneg _ _) (fun b hb => ?_))
    by_cases e : f a = f b
    · rw [if_pos e, hS a b ha (by omega)]
      have t1 := le_maxN (n := n) (F := fun b' => if b < b' then (if f b = f b' then W (12 * b + b') else 0) else 0) ha
      simp only [hb, if_pos, e.symm] at t1
      have t2 := le_maxN (n := n) (F := fun a => maxN n (fun b => if a < b then (if f a = f b then W (12 * a + b) else 0) else 0)) (i := b) (by omega)
      simp only [e.symm] at t2
      exact Int.le_trans t1 t2
    · rw [if_neg e]; exact maxN_nonneg _ _
  · refine maxN_le (maxN_nonneg _ _) (fun a ha => maxN_le (maxN_nonneg _ _) (fun b hb => ?_))
    by_cases h1 : a < b
    · rw [if_pos h1]
      by_cases e : f a = f b
      · rw [if_pos e, hS a b ha hb]
        have t1 := le_maxN (n := b) (F := fun b' => if f b = f b' then W (12 * b + b') else 0) h1
        simp only [e.symm, if_pos] at t1
        have t2 := le_maxN (n := n) (F := fun a => maxN a (fun b => if f a = f b then W (12 * a + b) else 0)) hb
        simp only [e.symm] at t2
        exact Int.le_trans t1 t2
      · rw [if_neg e]; exact maxN_nonneg _ _
    · rw [if_neg h1]; exact maxN_nonneg _ _
/-- a heap of a beginning -/
def pvt (p : Nat → Int) (v : Int) (t : Nat) : Nat → Bool := fun i => decide (i < t ∧ p i = v)
theorem hco_none {n : Nat} {W X K : Nat → Int} {g : Int} {q : Nat → Bool} (h : ∀ i, i < n → q i = false) : hco n W X K g q = 0 := by
  have a1 : hct n q = 0 := sumN_zero (fun i hi => by rw [h i hi]; rfl)
  have a2 : ∀ i, i ≤ n → hmd n W q i = -1 := by
    intro i
    induction i with
    | zero => intro _; rfl
    | succ i ih =>
      intro hi
      simp only [hmd]
      rw [h i (by omega), ih (by omega)]; rfl
  have a3 : hwd n W q = 0 := by
    have b1 : hwd n W q ≤ 0 := maxN_le (Int.le_refl 0) (fun i hi => by rw [h i hi]; exact Int.le_refl 0)
    have b2 : 0 ≤ hwd n W q := maxN_nonneg n _
    omega
  have a4 : hqr n X K q = 0 := sumN_zero (fun i hi => by rw [h i hi]; rfl)
  unfold hco
  rw [a1, a2 n (Nat.le_refl _), a3, a4]
  simp
def PS (n : Nat) (W X K : Nat → Int) (g : Int) (t : Nat) (p : Nat → Int) : Int := (if g = 3 then grd n X K else 0) + sumN (mx p t).toNat (fun v => hco n W X K g (pvt p v t))
theorem PS_step {n : Nat} {W X K : Nat → Int} {g : Int} {t : Nat} {p : Nat → Int} (hn : n ≤ 12) {v : Nat} (hp : RGS t p) (hv : (v : Int) ≤ mx p t) : PS n W X K g (t + 1) (ups p t v) = PS n W X K g t p - hco n W X K g (pvt p v t) + hco n W X K g (pvt (ups p t v) v (t + 1)) := by
  have hm0 := mx_nonneg p t
  have em : mx (ups p t v) (t + 1) = max (mx p t) ((v : Int) + 1) := by
    simp only [mx]
    rw [mx_congr (g := ups p t v) (g' := p) (fun j hj => by rw [ups_at, if_neg (by omega)]), ups_at, if_pos rfl]
  have eo : ∀ u : Nat, u ≠ v → hco n W X K g (pvt (ups p t v) u (t + 1)) = hco n W X K g (pvt p u t) := by
    intro u hu
    refine hco_congr hn (fun _ _ => rfl) (fun _ _ => rfl) (fun _ _ => rfl) (fun i hi => ?_) g
    unfold pvt
    rw [ups_at]
    by_cases z : i = t
    · subst z
      rw [if_pos rfl]
      have h1 : ¬ (i < i + 1 ∧ ((v : Nat) : Int) = (u : Int)) := by omega
      have h2 : ¬ (i < i ∧ p i = (u : Int)) := by omega
      simp [h1, h2]
      omega
    · rw [if_neg z]
      have : (i < t + 1 ∧ p i = (u : Int)) ↔ (i < t ∧ p i = (u : Int)) := by omega
      simp only [this]
  unfold PS
  rw [em]
  by_cases hlt : (v : Int) < mx p t
  · rw [show max (mx p t) ((v : Int) + 1) = mx p t by omega]
    have := sumN_one (n := (mx p t).toNat) (j := v) (F := fun u => hco n W X K g (pvt (ups p t v) u (t + 1))) (G := fun u => hco n W X K g (pvt p u t)) (by omega) (fun i hi hne => eo i hne)
    rw [this]; omega
  · have ev : mx p t = v := by omega
    rw [show (max (mx p t) ((v : Int) + 1)).toNat = (mx p t).toNat + 1 by omega]
    have e2 : sumN ((mx p t).toNat + 1) (fun u => hco n W X K g (pvt (ups p t v) u (t + 1))) = sumN (mx p t).toNat (fun u => hco n W X K g (pvt (ups p t v) u (t + 1))) + hco n W X K g (pvt (ups p t v) ((mx p t).toNat : Nat) (t + 1)) := rfl
    rw [e2, sumN_congr (fun u hu => eo u (by omega)), show (mx p t).toNat = v by omega]
    have hz : hco n W X K g (pvt p v t) = 0 := hco_none (fun i hi => by
      unfold pvt
      have : ¬ (i < t ∧ p i = (v : Int)) := by
        rintro ⟨z1, z2⟩
        have := lt_mx (g := p) z1; omega
      simp [this])
    rw [hz]; omega
theorem PS_end {n : Nat} {W X K : Nat → Int} {g : Int} {p : Nat → Int} (hn : n ≤ 12) (hg : g ≠ 2) : PS n W X K g n p = cst n W X K g p := by
  unfold PS cst
  rw [cfold_s hg]
  congr 1
  exact sumN_congr (fun v _ => hco_congr hn (fun _ _ => rfl) (fun _ _ => rfl) (fun _ _ => rfl) (fun i hi => by unfold pvt pv; simp [hi]) g)
theorem PW_end {n : Nat} {W X K : Nat → Int} {p : Nat → Int} (hn : n ≤ 12) (hW : Wok W) (hS : Sym n W) (hp : RGS n p) : PW W n p = cst n W X K 2 p := by
  rw [PW_rwd hS, rwd_eq hn hW hS hp]
  unfold cst
  rw [if_neg (by omega), cfold_2]
  rfl
theorem cst_bd {n : Nat} {W X K : Nat → Int} (hn : n ≤ 12) (hW : Wok W) (hX : Xok X K) {g : Int} {p : Nat → Int} (hp : RGS n p) : -13000000000000000 ≤ cst n W X K g p ∧ cst n W X K g p ≤ 13000000000000000 := by
  have hm := hp.mx_le; have hm0 := mx_nonneg p n
  have hg := grd_bd hn hX
  unfold cst
  by_cases g2 : g = 2
  · subst g2
    rw [if_neg (by omega), cfold_2]
    have h1 := maxN_nonneg (mx p n).toNat (fun v => hco n W X K 2 (pv p v))
    have h2 := maxN_le (n := (mx p n).toNat) (F := fun v => hco n W X K 2 (pv p v)) (c := 1000000000000000) (by omega) (fun v _ => (hco_bd hn hW hX 2 (pv p v)).2)
    omega
  · rw [cfold_s g2]
    have := sumN_bd (n := (mx p n).toNat) (F := fun v => hco n W X K g (pv p v)) (B := 1000000000000000) (fun v _ => by have := hco_bd hn hW hX g (pv p v); exact ⟨by omega, this.2⟩)
    have e : (((mx p n).toNat : Nat) : Int) = mx p n := by omega
    rw [e] at this
    split <;> omega
theorem PS_bd {n : Nat} {W X K : Nat → Int} (hn : n ≤ 12) (hW : Wok W) (hX : Xok X K) {g : Int} {t : Nat} (ht : t ≤ 12) {p : Nat → Int} (hp : RGS t p) : -13000000000000000 ≤ PS n W X K g t p ∧ PS n W X K g t p ≤ 13000000000000000 := by
  have hm := hp.mx_le; have hm0 := mx_nonneg p t
  have hg := grd_bd hn hX
  unfold PS
  have := sumN_bd (n := (mx p t).toNat) (F := fun v => hco n W X K g (pvt p v t)) (B := 1000000000000000) (fun v _ => by have := hco_bd hn hW hX g (pvt p v t); exact ⟨by omega, this.2⟩)
  have e : (((mx p t).toNat : Nat) : Int) = mx p t := by omega
  rw [e] at this
  split <;> omega
