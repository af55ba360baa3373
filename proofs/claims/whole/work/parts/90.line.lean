/-! the class's line -/
def fl (P : Nat → Int) (a b : Nat) : Int := max (P (4 * a) - P (4 * b)) (-(P (4 * a) - P (4 * b)))
theorem fl_sym (P : Nat → Int) (a b : Nat) : fl P a b = fl P b a := by unfold fl; omega
theorem fl_bd {P : Nat → Int} (hP : ∀ i, i < 48 → -1000 ≤ P i ∧ P i ≤ 1000) {a b : Nat} (ha : a < 12) (hb : b < 12) : 0 ≤ fl P a b ∧ fl P a b ≤ 2000 := by
  have := hP (4 * a) (by omega); have := hP (4 * b) (by omega); unfold fl; omega
theorem fl_0 (P : Nat → Int) (a : Nat) : fl P a a = 0 := by unfold fl; omega
def Wfl (T : Nat → Nat → Int) (W0 : Nat → Int) (c : Nat → Nat → Prop) [DecidableRel c] (W : Nat → Int) : Prop := ∀ u v, u < 12 → v < 12 → W (12 * u + v) = if c u v then T u v else W0 (12 * u + v)
theorem Wfl.step {T : Nat → Nat → Int} {W0 W : Nat → Int} {c c' : Nat → Nat → Prop} [DecidableRel c] [DecidableRel c'] (hT : ∀ u v, T u v = T v u) (h : Wfl T W0 c W) {a b : Nat} (hc : ∀ u v, u < 12 → v < 12 → (c' u v ↔ (c u v ∨ (u = a ∧ v = b) ∨ (u = b ∧ v = a)))) (ha : a < 12) (hb : b < 12) : Wfl T W0 c' (ups (ups W (12 * a + b) (T a b)) (12 * b + a) (T a b)) := by
  intro u v hu hv
  rw [ups_at, ups_at, h u v hu hv]
  have := hc u v hu hv
  by_cases e1 : 12 * u + v = 12 * b + a
  · have h1 : u = b := by omega
    have h2 : v = a := by omega
    subst h1; subst h2
    rw [if_pos rfl, if_pos (this.mpr (Or.inr (Or.inr ⟨rfl, rfl⟩))), hT]
  · rw [if_neg e1]
    by_cases e2 : 12 * u + v = 12 * a + b
    · have h1 : u = a := by omega
      have h2 : v = b := by omega
      subst h1; subst h2
      rw [if_pos rfl, if_pos (this.mpr (Or.inr (Or.inl ⟨rfl, rfl⟩)))]
    · rw [if_neg e2]
      have h3 : c' u v ↔ c u v := by
        rw [this]
        constructor
        · rintro (z | ⟨z1, z2⟩ | ⟨z1, z2⟩)
          · exact z
          · omega
          · omega
        · exact Or.inl
      by_cases e3 : c u v
      · rw [if_pos e3, if_pos (h3.mpr e3)]
      · rw [if_neg e3, if_neg (fun z => e3 (h3.mp z))]
abbrev LO : AC := obj 2 [vr 28, vr 29, vr 30, vr 33]
theorem isSq.W33 {h : Hp} {n m : Int} {P W X K : Nat → Int} {k : Int} {f : Nat → Int} (S : isSq h 33 n m P W X K k f) (W' : Nat → Int) : isSq (hput h 35 (arr 0 144 W')) 33 n m P W' X K k f := S.W W'
theorem setWayQ {h : Hp} {q : Nat} {n m : Int} {P W X K : Nat → Int} {k : Int} {f : Nat → Int} (S : isSq h q n m P W X K k f) {i j : Nat} (hi : i < 12) (hj : j < 12) (v : Int) : fX7_setWay q i j v h = some (hput h (q + 2) (arr 0 144 (ups (ups W (12 * i + j) v) (12 * j + i) v))) := by
  obtain ⟨s0, s1, s2, s3, s4, s5⟩ := S
  unfold fX7_setWay
  rw [gR 2 s0 rfl, ob, ast_of (12 * i + j) s2 (by omega) (by omega), ob, gR 2 (hput_ne (by omega) |>.trans s0) rfl, ob, ast_of (12 * j + i) hput_eq (by omega) (by omega), ob, hput_hput]
theorem c_flatten {h : Hp} {n : Nat} {P W X K f : Nat → Int} {k : Int} (S : isSc h 2 n P W X K k f) (hn1 : 1 ≤ n) (hn : n ≤ 12) (hP : ∀ i, i < 48 → -1000 ≤ P i ∧ P i ≤ 1000) (o : h.2 27 = some LO) {n0 m0 kf : Int} {Pf Wf Xf Kf ff : Nat → Int} (S3 : isSq h 33 n0 m0 Pf Wf Xf Kf kf ff) (hF : Flt Wf Xf Kf) :
    ∃ (h' : Hp) (W' : Nat → Int), fX3_flatten 27 2 h = some h' ∧ isSq h' 33 n m0 Pf W' Xf Kf kf ff ∧ Flt W' Xf Kf ∧ (∀ a b, a < n → b < n → W' (12 * a + b) = fl P a b) ∧ Fr (fun k => k = 33 ∨ k = 35) h h' := by
  obtain ⟨s0, s1, s2, s3, s4, s5⟩ := S3
  have S4 : isSq (hput h 33 (scO 33 n)) 33 n m0 Pf Wf Xf Kf kf ff := ⟨hput_eq, (hput_ne (by omega)).trans s1, (hput_ne (by omega)).trans s2, (hput_ne (by omega)).trans s3, (hput_ne (by omega)).trans s4, s5.ag (fun l h1 h2 => hput_ne (by omega))⟩
  have o4 : ∀ W1, (hput (hput h 33 (scO 33 n)) 35 (arr 0 144 W1)).2 27 = some LO := fun W1 => (hput_ne (by omega)).trans ((hput_ne (by omega)).trans o)
  have Sc : ∀ W1, isSc (hput (hput h 33 (scO 33 n)) 35 (arr 0 144 W1)) 2 n P W X K k f := fun W1 => isSq.ag S (fun l hl => by obtain ⟨q1, q2⟩ := hl; exact (hput_ne (by omega)).trans (hput_ne (by omega)))
  have S5 : ∀ W1, isSq (hput (hput h 33 (scO 33 n)) 35 (arr 0 144 W1)) 33 n m0 Pf W1 Xf Kf kf ff := fun W1 => S4.W33 W1
  unfold fX3_flatten
  rw [gR 3 o rfl, ob, gI 0 S.1 rfl, ob, pV (fs' := [vi n, vr 34, vr 35, vr 36, vr 37, vr 38]) 0 s0 (by simp) rfl, ob]
  have inn : ∀ (Kk : Nat → Nat → Int → Hp → Option Hp) (a : Nat), a < n → ∀ W1, Wfl (fl P) Wf (fun u v => u ≠ v ∧ u < a ∧ v < a) W1 → ∃ W2, fX3_flatten_23 Kk FU 27 2 a 0 (hput (hput h 33 (scO 33 n)) 35 (arr 0 144 W1)) = Kk 27 2 ((a + 1 : Nat) : Int) (hput (hput h 33 (scO 33 n)) 35 (arr 0 144 W2)) ∧ Wfl (fl P) Wf (fun u v => u ≠ v ∧ u < a + 1 ∧ v < a + 1) W2 := by
    intro Kk a ha W1 hW
    refine lp (fun N b (W1 : Nat → Int) => fX3_flatten_23 Kk N 27 2 a b (hput (hput h 33 (scO 33 n)) 35 (arr 0 144 W1))) (fun b W1 => Wfl (fl P) Wf (fun u v => (u ≠ v ∧ u < a ∧ v < a) ∨ (u = a ∧ v < b) ∨ (v = a ∧ u < b)) W1) a (fun r => ∃ W2, r = Kk 27 2 ((a + 1 : Nat) : Int) (hput (hput h 33 (scO 33 n)) 35 (arr 0 144 W2)) ∧ Wfl (fl P) Wf (fun u v => u ≠ v ∧ u < a + 1 ∧ v < a + 1) W2) ?_ ?_ FU 0 W1 (Nat.zero_le _) (FU_lt (by omega)) (fun u v hu hv => ?_)
    · intro N b W1 hb hI
      have hp1 := hP (4 * a) (by omega); have hp2 := hP (4 * b) (by omega)
      have cc : ∀ z : Int, cob (z, hput (hput h 33 (scO 33 n)) 35 (arr 0 144 W1)).2 6 2 = some () := fun z => co (Sc W1).1
      have c3 : ∀ z : Int, cob (z, hput (hput h 33 (scO 33 n)) 35 (arr 0 144 W1)).2 6 33 = some () := fun z => co (S5 W1).1
      refine ⟨_, hI.step (fl_sym P) (a := a) (b := b) (fun u v hu hv => by omega) (by omega) (by omega), ?_⟩
      rw [fX3_flatten_23, if_neg (by omega), gR 3 (o4 W1) rfl, ob, co (Sc W1).1, ob, firstNumber_ok (Sc W1) (by omega), ob, cc, ob]
      simp only []
      rw [firstNumber_ok (Sc W1) (by omega), ob]
      simp only []
      rw [c32_n (by omega) (by omega), ob, c32_n (by omega) (by omega), ob, co (S5 W1).1, ob, setWayQ (S5 W1) (by omega) (by omega), ob, hput_hput, c32_n (by omega) (by omega), ob]
      rfl
    · intro N W1 hI
      rw [fX3_flatten_23, if_pos (by omega), fX3_flatten_57, c32_n (by omega) (by omega), ob]
      refine ⟨W1, rfl, fun u v hu hv => (hI u v hu hv).trans ?_⟩
      by_cases z : u ≠ v ∧ u < a + 1 ∧ v < a + 1
      · rw [if_pos z, if_pos (by omega)]
      · rw [if_neg z, if_neg (by omega)]
    · refine (hW u v hu hv).trans ?_
      by_cases z : u ≠ v ∧ u < a ∧ v < a
      · rw [if_pos z, if_pos (by omega)]
      · rw [if_neg z, if_neg (by omega)]
  have z := lp (fun N a (W1 : Nat → Int) => fX3_flatten_13 N 27 2 a (hput (hput h 33 (scO 33 n)) 35 (arr 0 144 W1))) (fun a W1 => Wfl (fl P) Wf (fun u v => u ≠ v ∧ u < a ∧ v < a) W1) n (fun r => ∃ (h' : Hp) (W' : Nat → Int), r = some h' ∧ isSq h' 33 n m0 Pf W' Xf Kf kf ff ∧ Flt W' Xf Kf ∧ (∀ a b, a < n → b < n → W' (12 * a + b) = fl P a b) ∧ Fr (fun k => k = 33 ∨ k = 35) h h') ?_ ?_ FU 1 Wf hn1 (FU_lt (by omega)) (fun u v hu hv => by rw [if_neg (by omega)])
  · rw [show hput (hput h 33 (scO 33 n)) 35 (arr 0 144 Wf) = hput h 33 (scO 33 n) from hput_self S4.2.2.1] at z; exact z
  · intro N a W1 ha hI
    obtain ⟨W2, e2, n2⟩ := inn (fX3_flatten_13 N) a ha W1 hI
    refine ⟨W2, n2, ?_⟩
    rw [fX3_flatten_13, gI 0 (Sc W1).1 rfl, ob, if_neg (by omega)]
    exact e2
  · intro N W1 hI
    rw [fX3_flatten_13, gI 0 (Sc W1).1 rfl, ob, if_pos (by omega), fX3_flatten_63]
    refine ⟨_, W1, rfl, S5 W1, ⟨fun i hi => ?_, fun a ha => ?_, hF.2.2⟩, fun a b ha hb => ?_, (Fr.rf.put (Or.inl rfl)).put (Or.inr rfl)⟩
    · obtain ⟨u, v, hu, hv, rfl⟩ := i12 hi
      rw [hI u v hu hv]
      split
      · have := fl_bd hP hu hv; omega
      · exact hF.1 _ hi
    · rw [hI a a ha ha, if_neg (by omega)]; exact hF.2.1 a ha
    · rw [hI a b (by omega) (by omega)]
      by_cases z : a = b
      · subst z; rw [if_neg (by omega), fl_0]; exact hF.2.1 a (by omega)
      · rw [if_pos ⟨z, ha, hb⟩]
/-- things in an order: an insertion -/
def insr (P : Nat → Int) (t : Nat) : Nat → (Nat → Int) → (Nat → Int)
  | 0, F => ups F 0 t
  | i + 1, F => if P (4 * (F i).toNat) ≤ P (4 * t) then ups F (i + 1) t else insr P t i (ups F (i + 1) (F i))
def srt (P : Nat → Int) (F : Nat → Int) : Nat → (Nat → Int)
  | 0 => F
  | i + 1 => insr P i i (srt P F i)
def PO (n : Nat) (F : Nat → Int) : Prop := (∀ i, i < n → 0 ≤ F i ∧ F i < n) ∧ (∀ t : Nat, t < n → ∃ i, i < n ∧ F i = t) ∧ ∀ i j, i < n → j < n → F i = F j → i = j
/-- all but place a hold the things below i -/
def PH (i a : Nat) (F : Nat → Int) : Prop := (∀ j, j ≤ i → j ≠ a → 0 ≤ F j ∧ F j < i) ∧ (∀ t : Nat, t < i → ∃ j, j ≤ i ∧ j ≠ a ∧ F j = t) ∧ ∀ j l, j ≤ i → l ≤ i → j ≠ a → l ≠ a → F j = F l → j = l
theorem PH.move {i a : Nat} {F : Nat → Int} (h : PH i (a + 1) F) (ha : a + 1 ≤ i) : PH i a (ups F (a + 1) (F a)) := by
  obtain ⟨h1, h2, h3⟩ := h
  refine ⟨fun j hj hja => ?_, fun t ht => ?_, fun j l hj hl hja hla e => ?_⟩
  · rw [ups_at]; split
    · exact h1 a (by omega) (by omega)
    · next z => exact h1 j hj z
  · obtain ⟨j, hj, hja, e⟩ := h2 t ht
    by_cases z : j = a
    · exact ⟨a + 1, ha, by omega, by rw [ups_at, if_pos rfl, ← z]; exact e⟩
    · exact ⟨j, hj, z, by rw [ups_at, if_neg hja]; exact e⟩
  · rw [ups_at, ups_at] at e
    by_cases z1 : j = a + 1 <;> by_cases z2 : l = a + 1
    · omega
    · rw [if_pos z1, if_neg z2] at e
      have := h3 a l (by omega) hl (by omega) z2 e; omega
    · rw [if_neg z1, if_pos z2] at e
      have := h3 j a hj (by omega) z1 (by omega) e; omega
    · rw [if_neg z1, if_neg z2] at e
      exact h3 j l hj hl z1 z2 e
theorem PH.fill {i a : Nat} {F : Nat → Int} (h : PH i a F) (ha : a ≤ i) : PO (i + 1) (ups F a i) := by
  obtain ⟨h1, h2, h3⟩ := h
  refine ⟨fun j hj => ?_, fun t ht => ?_, fun j l hj hl e => ?_⟩
  · rw [ups_at]; split
    · omega
    · next z => have := h1 j (by omega) z; omega
  · by_cases z : t = i
    · exact ⟨a, by omega, by rw [ups_at, if_pos rfl, z]⟩
    · obtain ⟨j, hj, hja, e⟩ := h2 t (by omega)
      exact ⟨j, by omega, by rw [ups_at, if_neg hja]; exact e⟩
  · rw [ups_at, ups_at] at e
    by_cases z1 : j = a <;> by_cases z2 : l = a
    · omega
    · rw [if_pos z1, if_neg z2] at e
      have := h1 l (by omega) z2; omega
    · rw [if_neg z1, if_pos z2] at e
      have := h1 j (by omega) z1; omega
    · rw [if_neg z1, if_neg z2] at e
      exact h3 j l (by omega) (by omega) z1 z2 e
theorem insr_po {P : Nat → Int} {i : Nat} : ∀ (a : Nat) (F : Nat → Int), a ≤ i → PH i a F → PO (i + 1) (insr P i a F) := by
  intro a
  induction a with
  | zero => intro F ha h; exact h.fill ha
  | succ a ih =>
    intro F ha h
    simp only [insr]
    split
    · exact h.fill ha
    · exact ih _ (by omega) (h.move ha)
theorem srt_po {P F : Nat → Int} : ∀ n : Nat, PO n (srt P F n) := by
  intro n
  induction n with
  | zero => exact ⟨fun i hi => by omega, fun t ht => by omega, fun i j hi => by omega⟩
  | succ n ih =>
    refine insr_po n _ (Nat.le_refl _) ⟨fun j hj hjn => ih.1 j (by omega), fun t ht => ?_, fun j l hj hl hjn hln e => ih.2.2 j l (by omega) (by omega) e⟩
    obtain ⟨j, hj, e⟩ := ih.2.1 t ht
    exact ⟨j, by omega, by omega, e⟩
/-- the order depends on first numbers alone, and not on what stood in the row -/
theorem insr_congr {P P' : Nat → Int} {t m : Nat} (eP : ∀ i, i < 12 → P (4 * i) = P' (4 * i)) (ht : t < 12) : ∀ (a : Nat) (F F' : Nat → Int), (∀ j, j < a → F j = F' j ∧ 0 ≤ F j ∧ F j < 12) → (∀ j, a < j → j < m → F j = F' j) → ∀ j, j < m → insr P t a F j = insr P' t a F' j := by
  intro a
  induction a with
  | zero =>
    intro F F' _ h2 j hj
    show ups F 0 t j = ups F' 0 t j
    rw [ups_at, ups_at]
    split
    · rfl
    · exact h2 j (by omega) hj
  | succ a ih =>
    intro F F' h1 h2 j hj
    have ha := h1 a (by omega)
    simp only [insr]
    rw [← ha.1, eP t ht, eP (F a).toNat (by omega)]
    split
    · rw [ups_at, ups_at]
      split
      · rfl
      · next z =>
        rcases Nat.lt_or_ge j (a + 1) with y | y
        · exact (h1 j y).1
        · exact h2 j (by omega) hj
    · refine ih _ _ (fun l hl => ?_) (fun l hl hlm => ?_) j hj
      · rw [ups_at, if_neg (by omega), ups_at, if_neg (by omega)]; exact h1 l (by omega)
      · rw [ups_at, ups_at]
        by_cases z : l = a + 1
        · rw [if_pos z, if_pos z]
        · rw [if_neg z, if_neg z]; exact h2 l (by omega) hlm
theorem srt_congr {P P' F F' : Nat → Int} (eP : ∀ i, i < 12 → P (4 * i) = P' (4 * i)) : ∀ n, n ≤ 12 → Eqn n (srt P F n) (srt P' F' n) := by
  intro n
  induction n with
  | zero => intro _ j hj; omega
  | succ n ih =>
    intro hn
    have e := ih (by omega)
    have po := srt_po (P := P) (F := F) n
    exact insr_congr eP (by omega) n _ _ (fun j hj => ⟨e j hj, by have := po.1 j hj; omega⟩) (fun j h1 h2 => by omega)
