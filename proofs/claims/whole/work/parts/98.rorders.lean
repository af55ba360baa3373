/-! the reference's sum over orders -/
theorem sumN_bij {n : Nat} {ord : Nat → Nat} (h1 : ∀ j, j < n → ord j < n) (h2 : ∀ i j, i < n → j < n → ord i = ord j → i = j) (h3 : ∀ t, t < n → ∃ j, j < n ∧ ord j = t) (F : Nat → Int) : sumN n (fun j => F (ord j)) = sumN n F := by
  have a1 : sumN n F = sumN n (fun t => sumN n (fun j => if ord j = t then F t else 0)) := sumN_congr (fun t ht => by
    obtain ⟨j0, hj0, e0⟩ := h3 t ht
    rw [sumN_congr (G := fun j => if ((j0 : Nat) : Int) = (j : Int) then F t else 0) (fun j hj => by
      by_cases z : ord j = t
      · have : j = j0 := h2 j j0 hj hj0 (by rw [z, e0])
        rw [if_pos z, if_pos (by omega)]
      · rw [if_neg z, if_neg (fun y => z (by have : j0 = j := by omega
                                             rw [← this]; exact e0))])]
    rw [sumN_pick (v := ((j0 : Nat) : Int)) (by omega) (by omega) (fun _ => F t)])
  rw [a1, sumN_comm]
  refine sumN_congr (fun j hj => ?_)
  rw [sumN_congr (G := fun t => if ((ord j : Nat) : Int) = (t : Int) then F t else 0) (fun t _ => by
    by_cases z : ord j = t
    · rw [if_pos z, if_pos (by omega)]
    · rw [if_neg z, if_neg (by omega)])]
  rw [sumN_pick (v := ((ord j : Nat) : Int)) (by omega) (by have := h1 j hj; omega)]
  simp
theorem gl_ord {X K : Nat → Int} {o o' : Nat → Nat} : ∀ m, (∀ i, i < m → o i = o' i) → gl X K o m = gl X K o' m := by
  intro m
  induction m with
  | zero => intro _; rfl
  | succ m ih =>
    intro h
    have e := ih (fun i hi => h i (by omega))
    simp only [gl]
    rw [e, h m (by omega)]
theorem rqr_cn {n : Nat} {X K f g : Nat → Int} (h : ∀ i j, i < n → j < n → (f i = f j ↔ g i = g j)) : rqr n X K f = rqr n X K g := by
  refine sumN_congr (fun a ha => sumN_congr (fun b hb => ?_))
  have := h a b ha hb
  by_cases z : a < b
  · rw [if_pos z, if_pos z]
    by_cases y : K (12 * a + b) = 1 ↔ f a = f b
    · rw [if_pos y, if_pos (y.trans this)]
    · rw [if_neg y, if_neg (fun w => y (w.trans this.symm))]
  · rw [if_neg z, if_neg z]
/-- quarrels when things are gathered in an order -/
def COl (n : Nat) (X K : Nat → Int) (l : List Nat) : Int := rqr n X K (gl X K (fun q => l.getD q 0) n).1
def OrdN (n : Nat) (o : Nat → Nat) : Prop := (∀ j, j < n → o j < n) ∧ (∀ i j, i < n → j < n → o i = o j → i = j) ∧ ∀ t, t < n → ∃ j, j < n ∧ o j = t
theorem OrdN.lt {n : Nat} {o : Nat → Nat} (h : OrdN n o) : ∀ j, j < n → o j < n := h.1
theorem OrdN.inj {n : Nat} {o : Nat → Nat} (h : OrdN n o) : ∀ i j, i < n → j < n → o i = o j → i = j := h.2.1
theorem OrdN.sur {n : Nat} {o : Nat → Nat} (h : OrdN n o) : ∀ t, t < n → ∃ j, j < n ∧ o j = t := h.2.2
def osw (o : Nat → Nat) (i j : Nat) : Nat → Nat := fun q => if q = i then o j else if q = j then o i else o q
def trs (i j q : Nat) : Nat := if q = i then j else if q = j then i else q
theorem trs_inv (i j q : Nat) : trs i j (trs i j q) = q := by
  unfold trs
  by_cases a : q = i
  · rw [if_pos a]
    by_cases b : j = i
    · rw [if_pos b]; omega
    · rw [if_neg b, if_pos rfl]; omega
  · rw [if_neg a]
    by_cases b : q = j
    · rw [if_pos b, if_pos rfl]; omega
    · rw [if_neg b, if_neg a, if_neg b]
theorem osw_at (o : Nat → Nat) (i j q : Nat) : osw o i j q = o (trs i j q) := by
  unfold osw trs; split
  · rfl
  · split <;> rfl
theorem OrdN.sw {n : Nat} {o : Nat → Nat} (h : OrdN n o) {i j : Nat} (hi : i < n) (hj : j < n) : OrdN n (osw o i j) := by
  have lt_ : ∀ q, q < n → trs i j q < n := fun q hq => by unfold trs; split; exact hj; split <;> omega
  refine ⟨fun q hq => ?_, fun a b ha hb e => ?_, fun t ht => ?_⟩
  · rw [osw_at]; exact h.lt _ (lt_ q hq)
  · rw [osw_at, osw_at] at e
    have := h.inj _ _ (lt_ a ha) (lt_ b hb) e
    rw [← trs_inv i j a, this, trs_inv]
  · obtain ⟨q, hq, e⟩ := h.sur t ht
    exact ⟨trs i j q, lt_ q hq, by rw [osw_at, trs_inv]; exact e⟩
def pre (o : Nat → Nat) (i : Nat) : List Nat := (List.range i).map o
theorem pre_sw {o : Nat → Nat} {i j : Nat} (hj : i ≤ j) : pre (osw o i j) (i + 1) = pre o i ++ [o j] := by
  unfold pre
  rw [List.range_succ, List.map_append]
  congr 1
  · refine List.map_congr_left (fun q hq => ?_)
    have := List.mem_range.mp hq
    unfold osw; rw [if_neg (by omega), if_neg (by omega)]
  · simp [osw]
theorem mem_pre {o : Nat → Nat} {i t : Nat} : t ∈ pre o i ↔ ∃ q, q < i ∧ o q = t := by
  unfold pre
  simp [List.mem_map, List.mem_range]
theorem pre_at {o : Nat → Nat} {i q : Nat} (hq : q < i) : (pre o i).getD q 0 = o q := by
  unfold pre
  simp [List.getD, hq]
/-- things that stand at a place or behind it -/
def bhd (o : Nat → Nat) (i : Nat) : Nat → Bool := fun t => decide (t ∉ pre o i)
section
variable {h : Hp} {s : Scn} {hist : List Scn} {x : Aux} {flt : Int}
theorem r_orders0 (R : RI h s hist x flt) (G : GSc s) (N : Nat) {A : Nat → Int} {o : Nat → Nat} (e80 : h.2 80 = some (arr 0 12 A)) (hA : ∀ j, j < sn s → A j = o j) (ho : OrdN (sn s) o) : ∃ (h' : Hp) (A' : Nat → Int), fX12_orders (N + 1) 62 (sn s) h = some (OS (sn s) 0 (fun l => COl (sn s) (sX s) (sK s) (pre o (sn s) ++ l)) (bhd o (sn s)), h') ∧ h'.2 80 = some (arr 0 12 A') ∧ (∀ j, j < sn s → A' j = o j) ∧ RI h' s hist x flt ∧ Fr (fun k => k = 76 ∨ k = 78 ∨ k = 80) h h' := by
  have hn := G.2.1
  obtain ⟨pa, fp, sm, ob1⟩ := R.obj
  obtain ⟨h', g, F, e1, m1, q1, n1, R1, F1⟩ := r_gath R G rfl e80 (ord := o) (fun j hj => ⟨hA j hj, ho.lt j hj⟩) ho.sur
  have ec : cst (sn s) (sW s) (sX s) (sK s) 3 g = COl (sn s) (sX s) (sK s) (pre o (sn s) ++ []) := by
    unfold COl
    rw [List.append_nil, gl_ord (o' := o) (sn s) (fun q hq => pre_at hq), ← rqr_cn n1.2, rqr_eq hn G.xok (fun a b ha hb => G.2.2.2.2.2.2.2.1 a b (by omega) (by omega)) (fun a b ha hb => G.2.2.2.2.2.2.2.2.2.2.1 a b (by omega) (by omega)) n1.1]
    unfold cst
    rw [if_pos rfl, cfold_s (by omega)]; rfl
  refine ⟨h', A, ?_, (F1.2 80 (by omega)).trans e80, hA, R1, F1.mono (fun k hk => by omega)⟩
  rw [fX12_orders, R.nb, if_pos rfl]
  simp only []
  rw [gR 24 ob1 rfl, ob, R.cb, ob, e1, ob, ec]; rfl
theorem OS_bd {n : Nat} (hn : n ≤ 12) {B : Int} (hB : 0 ≤ B) : ∀ (d : Nat) {φ : List Nat → Int} (p : Nat → Bool), (∀ l, -B ≤ φ l ∧ φ l ≤ B) → -(12 ^ d * B) ≤ OS n d φ p ∧ OS n d φ p ≤ 12 ^ d * B := by
  intro d
  induction d with
  | zero => intro φ p h; have := h []; simp only [OS]; omega
  | succ d ih =>
    intro φ p h
    have hb : ∀ t, t < n → -(12 ^ d * B) ≤ (if p t then OS n d (fun l => φ (t :: l)) (rmv p t) else 0) ∧ (if p t then OS n d (fun l => φ (t :: l)) (rmv p t) else 0) ≤ 12 ^ d * B := fun t _ => by
      have h1 := ih (φ := fun l => φ (t :: l)) (rmv p t) (fun l => h _)
      split
      · exact h1
      · omega
    have h2 := sumN_bd hb
    have h3 : (0 : Int) ≤ 12 ^ d * B := Int.mul_nonneg (Int.pow_nonneg (by omega)) hB
    have h4 : (12 : Int) ^ (d + 1) * B = 12 * (12 ^ d * B) := by rw [Int.pow_succ, Int.mul_comm _ 12, Int.mul_assoc]
    have h5 : (n : Int) * (12 ^ d * B) ≤ 12 * (12 ^ d * B) := Int.mul_le_mul_of_nonneg_right (by omega) h3
    rw [h4]
    simp only [OS]
    omega
end
