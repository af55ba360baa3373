/-! quarrels of a gathering within a set, by its first thing -/
def CPt (X K : Nat → Int) (p : Nat → Bool) (lab : Nat → Int) (a b : Nat) : Int := if (p a && p b) = true then (if (K (12 * a + b) = 1 ↔ lab a = lab b) then 0 else X (12 * a + b)) else 0
def CP (n : Nat) (X K : Nat → Int) (p : Nat → Bool) (l : List Nat) : Int := sumN n (fun a => sumN n (fun b => if a < b then CPt X K p (glf X K l).1 a b else 0))
def TkB (X K : Nat → Int) (t : Nat) : Nat → Bool := fun b => decide (b = t) || pul X K t b
def ctt (X K : Nat → Int) (p T : Nat → Bool) (a b : Nat) : Int := if (p a && p b && (T a || T b)) = true then (if (K (12 * a + b) = 1 ↔ (T a && T b) = true) then 0 else X (12 * a + b)) else 0
def ctk (n : Nat) (X K : Nat → Int) (p T : Nat → Bool) : Int := sumN n (fun a => sumN n (fun b => if a < b then ctt X K p T a b else 0))
theorem TkB_iff (X K : Nat → Int) (t b : Nat) : TkB X K t b = true ↔ (b = t ∨ pul X K t b = true) := by
  unfold TkB; simp
theorem CPt_cons {X K : Nat → Int} {p : Nat → Bool} {t : Nat} (l : List Nat) (a b : Nat) : CPt X K p (glf X K (t :: l)).1 a b = ctt X K p (TkB X K t) a b + CPt X K (fun j => p j && !TkB X K t j) (glf X K (l.filter (fun j => !TkB X K t j))).1 a b := by
  obtain ⟨-, h2, h3, h4, -⟩ := glf_cons (X := X) (K := K) (t := t) (r := fun j => !TkB X K t j) (fun b => by
    rw [← TkB_iff X K t b]; simp) l
  have i1 := TkB_iff X K t a; have i2 := TkB_iff X K t b
  unfold CPt ctt
  by_cases pa : p a = true <;> by_cases pb : p b = true
  · by_cases ta : TkB X K t a = true <;> by_cases tb : TkB X K t b = true
    · have e : (glf X K (t :: l)).1 a = (glf X K (t :: l)).1 b := (h2 a (i1.mp ta)).trans (h2 b (i2.mp tb)).symm
      simp [pa, pb, ta, tb, e]
    · have ga := h2 a (i1.mp ta); have gb := h3 b (fun w => tb (i2.mpr w)); have := h4 b
      have e : ¬ (glf X K (t :: l)).1 a = (glf X K (t :: l)).1 b := by
        rw [ga, gb]; split <;> omega
      simp [pa, pb, ta, tb, e]
    · have ga := h3 a (fun w => ta (i1.mpr w)); have gb := h2 b (i2.mp tb); have := h4 a
      have e : ¬ (glf X K (t :: l)).1 a = (glf X K (t :: l)).1 b := by
        rw [ga, gb]; split <;> omega
      simp [pa, pb, ta, tb, e]
    · have ga := h3 a (fun w => ta (i1.mpr w)); have gb := h3 b (fun w => tb (i2.mpr w)); have := h4 a; have := h4 b
      have e : (glf X K (t :: l)).1 a = (glf X K (t :: l)).1 b ↔ (glf X K (l.filter (fun j => !TkB X K t j))).1 a = (glf X K (l.filter (fun j => !TkB X K t j))).1 b := by
        rw [ga, gb]; split <;> split <;> omega
      simp [pa, pb, ta, tb, e]
  · simp [pb]
  · simp [pa]
  · simp [pa]
theorem CP_cons {n : Nat} {X K : Nat → Int} {p : Nat → Bool} {t : Nat} (l : List Nat) : CP n X K p (t :: l) = ctk n X K p (TkB X K t) + CP n X K (fun j => p j && !TkB X K t j) (l.filter (fun j => !TkB X K t j)) := by
  unfold CP ctk
  rw [← sumN_add]
  refine sumN_congr (fun a _ => ?_)
  rw [← sumN_add]
  refine sumN_congr (fun b _ => ?_)
  split
  · exact CPt_cons l a b
  · rfl
theorem CP_all {n : Nat} {X K : Nat → Int} {l : List Nat} (hl : l.length = n) : COl n X K l = CP n X K (fun _ => true) l := by
  unfold COl CP rqr
  have e := gl_fold X K l n (by omega)
  rw [List.take_of_length_le (by omega)] at e
  rw [e]
  refine sumN_congr (fun a _ => sumN_congr (fun b _ => ?_))
  unfold CPt
  simp
