/-! gathering along a list -/
def gsp (X K : Nat → Int) (st : (Nat → Int) × Int) (t : Nat) : (Nat → Int) × Int := if st.1 t = -1 then (gst X K st.1 st.2 t, st.2 + 1) else st
def glf (X K : Nat → Int) (l : List Nat) : (Nat → Int) × Int := l.foldl (gsp X K) (fun _ => -1, 0)
theorem gl_fold (X K : Nat → Int) (l : List Nat) : ∀ m, m ≤ l.length → gl X K (fun q => l.getD q 0) m = glf X K (l.take m) := by
  intro m
  induction m with
  | zero => intro _; simp [glf, gl]
  | succ m ih =>
    intro hm
    have e := ih (by omega)
    have h1 : l.take (m + 1) = l.take m ++ [l.getD m 0] := by
      rw [List.take_succ_eq_append_getElem (by omega)]
      simp [List.getD, List.getElem?_eq_getElem (show m < l.length by omega)]
    rw [h1]
    unfold glf
    rw [List.foldl_append]
    have e2 : glf X K (l.take m) = (l.take m).foldl (gsp X K) (fun _ => -1, 0) := rfl
    rw [← e2, ← e]
    rfl
/-- one heap more in front -/
def Rel (T : Nat → Prop) (st st' : (Nat → Int) × Int) : Prop := st.2 = st'.2 + 1 ∧ (∀ b, T b → st.1 b = 0) ∧ (∀ b, ¬ T b → st.1 b = if st'.1 b = -1 then -1 else st'.1 b + 1) ∧ (∀ b, -1 ≤ st'.1 b) ∧ 0 ≤ st'.2
theorem Rel.in {X K : Nat → Int} {T : Nat → Prop} {st st' : (Nat → Int) × Int} (h : Rel T st st') {t : Nat} (ht : T t) : Rel T (gsp X K st t) st' := by
  have : gsp X K st t = st := by
    unfold gsp
    rw [if_neg (by rw [h.2.1 t ht]; decide)]
  rw [this]; exact h
theorem Rel.out {X K : Nat → Int} {T : Nat → Prop} {st st' : (Nat → Int) × Int} (h : Rel T st st') {t : Nat} (ht : ¬ T t) : Rel T (gsp X K st t) (gsp X K st' t) := by
  obtain ⟨h1, h2, h3, h4, h5⟩ := h
  have e := h3 t ht
  by_cases z : st'.1 t = -1
  · rw [if_pos z] at e
    unfold gsp
    rw [if_pos e, if_pos z]
    refine ⟨by show st.2 + 1 = st'.2 + 1 + 1; omega, fun b hb => ?_, fun b hb => ?_, fun b => ?_, by show 0 ≤ st'.2 + 1; omega⟩
    · show gst X K st.1 st.2 t b = 0
      unfold gst
      rw [if_neg (by rw [h2 b hb]; intro y; exact absurd y.1 (by decide))]; exact h2 b hb
    · show gst X K st.1 st.2 t b = if gst X K st'.1 st'.2 t b = -1 then -1 else gst X K st'.1 st'.2 t b + 1
      have eb := h3 b hb; have gb := h4 b
      by_cases y : st'.1 b = -1
      · rw [if_pos y] at eb
        by_cases w : b = t ∨ pul X K t b = true
        · have u1 : gst X K st.1 st.2 t b = st.2 := if_pos ⟨eb, w⟩
          have u2 : gst X K st'.1 st'.2 t b = st'.2 := if_pos ⟨y, w⟩
          rw [u1, u2, if_neg (by omega)]; exact h1
        · have u1 : gst X K st.1 st.2 t b = st.1 b := if_neg (fun v => w v.2)
          have u2 : gst X K st'.1 st'.2 t b = st'.1 b := if_neg (fun v => w v.2)
          rw [u1, u2, if_pos y]; exact eb
      · rw [if_neg y] at eb
        have u1 : gst X K st.1 st.2 t b = st.1 b := if_neg (fun v => by have := v.1; omega)
        have u2 : gst X K st'.1 st'.2 t b = st'.1 b := if_neg (fun v => y v.1)
        rw [u1, u2, if_neg y]; exact eb
    · show -1 ≤ gst X K st'.1 st'.2 t b
      unfold gst
      split
      · omega
      · exact h4 b
  · have g := h4 t
    rw [if_neg z] at e
    unfold gsp
    rw [if_neg (by omega), if_neg z]
    exact ⟨h1, h2, h3, h4, h5⟩
theorem Rel.fold {X K : Nat → Int} {T : Nat → Prop} {r : Nat → Bool} (hr : ∀ t, r t = true ↔ ¬ T t) : ∀ (l : List Nat) {st st' : (Nat → Int) × Int}, Rel T st st' → Rel T (l.foldl (gsp X K) st) ((l.filter r).foldl (gsp X K) st') := by
  intro l
  induction l with
  | nil => intro st st' h; exact h
  | cons t l ih =>
    intro st st' h
    by_cases z : r t = true
    · rw [List.filter_cons_of_pos z]
      exact ih (h.out ((hr t).mp z))
    · rw [List.filter_cons_of_neg z]
      have : T t := Classical.byContradiction (fun y => z ((hr t).mpr y))
      exact ih (h.in this)
/-- the first thing of a list takes all that it pulls; the others go on without them -/
theorem glf_cons {X K : Nat → Int} {t : Nat} {r : Nat → Bool} (hr : ∀ b, r b = true ↔ ¬ (b = t ∨ pul X K t b = true)) (l : List Nat) : Rel (fun b => b = t ∨ pul X K t b = true) (glf X K (t :: l)) (glf X K (l.filter r)) := by
  unfold glf
  rw [List.foldl_cons]
  refine Rel.fold hr l ⟨?_, fun b hb => ?_, fun b hb => ?_, fun b => by show (-1 : Int) ≤ -1; omega, by show (0 : Int) ≤ 0; omega⟩
  · unfold gsp; rw [if_pos rfl]
  · unfold gsp
    rw [if_pos rfl]
    show gst X K (fun _ => -1) 0 t b = 0
    unfold gst; rw [if_pos ⟨rfl, hb⟩]
  · unfold gsp
    rw [if_pos rfl, if_pos rfl]
    show gst X K (fun _ => -1) 0 t b = -1
    unfold gst; rw [if_neg (fun v => hb v.2)]
