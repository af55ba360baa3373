/-! constructors: the search's, the names', the bench's, the reference's -/
def cSe (q : Nat) : List AC := [obj 7 [vr (q + 1), vr (q + 2), vr (q + 3), vl 0, vi 0, vi 0, vi 0], arr 1 512 (fun _ => 0), arr 0 12 (fun _ => 0), arr 0 12 (fun _ => 0)]
theorem i_se (q : Nat) (b : Hp) (hb : b.1 + 1 = q) : fX8_init q (ext b [obj 7 [vr 0, vr 0, vr 0, vl 0, vi 0, vi 0, vi 0]]) = some (ext b (cSe q)) := by
  unfold fX8_init
  rw [co (hdS hb.symm), ob, rowS hb.symm (q := q + 1) (by simp; omega) (by simp) rfl, rowS hb.symm (q := q + 2) (by simp; omega) (by simp) rfl, rowS hb.symm (q := q + 3) (by simp; omega) (by simp) rfl, setS hb.symm (by simp) rfl, setS hb.symm (by simp) rfl, setS hb.symm (by simp) rfl, setS hb.symm (by simp) rfl]
  rfl
-- the table of names
theorem nm55 {h : Hp} {a q q2 : Nat} (hq : a ≠ q) (o : h.2 a = some (obj 4 [vr q, vr q2])) (K47 : Nat → Int → Hp → Option Hp) {t : Nat} (ht1 : 1 ≤ t) (ht : t < 13) {F : Nat → Int} (hF : ∀ k t', t' < t → k + t' < 13 → F (13 * k + t') = won t' k) : ∃ F' : Nat → Int, fX5_init_55 K47 FU a t 0 (hput h q (arr 1 169 F)) = fX5_init_112 K47 a t (hput h q (arr 1 169 F')) ∧ ∀ k t', t' < t + 1 → k + t' < 13 → F' (13 * k + t') = won t' k := by
  have o' : ∀ F : Nat → Int, (hput h q (arr 1 169 F)).2 a = some (obj 4 [vr q, vr q2]) := fun F => (hput_ne hq).trans o
  refine lp (fun N k (F : Nat → Int) => fX5_init_55 K47 N a t k (hput h q (arr 1 169 F))) (fun k F => ∀ k' t', (t' < t ∨ (t' = t ∧ k' < k)) → k' + t' < 13 → F (13 * k' + t') = won t' k') (13 - t) (fun r => ∃ F' : Nat → Int, r = fX5_init_112 K47 a t (hput h q (arr 1 169 F')) ∧ ∀ k t', t' < t + 1 → k + t' < 13 → F' (13 * k + t') = won t' k) ?_ ?_ FU 0 F (Nat.zero_le _) (FU_lt (by omega)) (fun k' t' h1 h2 => hF k' t' (by omega) h2)
  · intro N k F hk hI
    have v5 : F (13 * k + (t - 1)) = won (t - 1) k := hI k (t - 1) (by omega) (by omega)
    have v7 : F (13 * (k + 1) + (t - 1)) = won (t - 1) (k + 1) := hI (k + 1) (t - 1) (by omega) (by omega)
    have ew : (k : Int) * won (t - 1) k + won (t - 1) (k + 1) = won t k := by
      obtain ⟨t0, rfl⟩ : ∃ t0, t = t0 + 1 := ⟨t - 1, by omega⟩
      rfl
    have wb := won_b (t := t) (k := k) (by omega) (by omega)
    refine ⟨ups F (13 * k + t) (won t k), fun k' t' h1 h2 => ?_, ?_⟩
    · rw [ups_at]
      by_cases w : 13 * k' + t' = 13 * k + t
      · have : k' = k := by omega
        have : t' = t := by omega
        subst_vars; rw [if_pos rfl]
      · rw [if_neg w]
        exact hI k' t' (by
          rcases h1 with h1 | h1
          · exact Or.inl h1
          · refine Or.inr ⟨h1.1, ?_⟩
            have : k' ≠ k := fun y => w (by rw [y, h1.1])
            omega) h2
    · show fX5_init_55 K47 (N + 1) a t k (hput h q (arr 1 169 F)) = _
      rw [fX5_init_55, c32_n (by omega) (by omega), ob, if_neg (by omega), gR 0 (o' F) rfl, ob, ob, ald_of (13 * k + (t - 1)) hput_eq (by omega) (by omega), ob, ob, ald_of (13 * (k + 1) + (t - 1)) hput_eq (by omega) (by omega), ob, v5, v7, ew, c64_n (by omega) (by omega), ob, ast_of (13 * k + t) hput_eq (by omega) (by omega), ob, hput_hput, c32_n (by omega) (by omega), ob]; rfl
  · intro N F hI
    show ∃ F' : Nat → Int, fX5_init_55 K47 (N + 1) a t ((13 - t : Nat) : Int) (hput h q (arr 1 169 F)) = _ ∧ _
    rw [fX5_init_55, c32_n (by omega) (by omega), ob, if_pos (by omega)]
    exact ⟨F, rfl, fun k' t' h1 h2 => hI k' t' (by omega) h2⟩
theorem nm23 {h : Hp} {a q q2 : Nat} (hq : a ≠ q) (o : h.2 a = some (obj 4 [vr q, vr q2])) {F : Nat → Int} (e : h.2 q = some (arr 1 169 F)) : ∃ r : Nat → Int, fX5_init_23 FU a 0 h = some (hput h q (arr 1 169 r)) ∧ ∀ k t, k + t < 13 → r (13 * k + t) = won t k := by
  have o' : ∀ F : Nat → Int, (hput h q (arr 1 169 F)).2 a = some (obj 4 [vr q, vr q2]) := fun F => (hput_ne hq).trans o
  have L1 : ∃ F1 : Nat → Int, fX5_init_23 FU a ((0 : Nat) : Int) (hput h q (arr 1 169 F)) = fX5_init_45 a (hput h q (arr 1 169 F1)) ∧ ∀ k, k < 13 → F1 (13 * k) = 1 := by
    refine lp (fun N k (F : Nat → Int) => fX5_init_23 N a k (hput h q (arr 1 169 F))) (fun k F => ∀ k', k' < k → F (13 * k') = 1) 13 (fun r => ∃ F1 : Nat → Int, r = fX5_init_45 a (hput h q (arr 1 169 F1)) ∧ ∀ k, k < 13 → F1 (13 * k) = 1) ?_ ?_ FU 0 F (Nat.zero_le _) (FU_lt (by omega)) (fun k hk => by omega)
    · intro N k F hk hI
      refine ⟨ups F (13 * k) 1, fun k' hk' => ?_, ?_⟩
      · rw [ups_at]
        by_cases w : 13 * k' = 13 * k
        · rw [if_pos w]
        · rw [if_neg w]; exact hI k' (by omega)
      · show fX5_init_23 (N + 1) a k (hput h q (arr 1 169 F)) = _
        rw [fX5_init_23, if_neg (by omega), gR 0 (o' F) rfl, ob, ast_of (13 * k) hput_eq (by omega) (by omega), ob, hput_hput, c32_n (by omega) (by omega), ob]; rfl
    · intro N F hI
      show ∃ F1 : Nat → Int, fX5_init_23 (N + 1) a ((13 : Nat) : Int) (hput h q (arr 1 169 F)) = _ ∧ _
      rw [fX5_init_23, if_pos (by omega)]
      exact ⟨F, rfl, hI⟩
  obtain ⟨F1, e1, h1⟩ := L1
  have e1 : fX5_init_23 FU a 0 h = fX5_init_45 a (hput h q (arr 1 169 F1)) := by rw [hput_self e] at e1; exact e1
  rw [e1, fX5_init_45]
  have L2 : ∃ r : Nat → Int, fX5_init_47 FU a ((1 : Nat) : Int) (hput h q (arr 1 169 F1)) = some (hput h q (arr 1 169 r)) ∧ ∀ k t, k + t < 13 → r (13 * k + t) = won t k := by
    refine lp (fun N t (F : Nat → Int) => fX5_init_47 N a t (hput h q (arr 1 169 F))) (fun t F => 1 ≤ t ∧ ∀ k t', t' < t → k + t' < 13 → F (13 * k + t') = won t' k) 13 (fun r => ∃ r' : Nat → Int, r = some (hput h q (arr 1 169 r')) ∧ ∀ k t, k + t < 13 → r' (13 * k + t) = won t k) ?_ ?_ FU 1 F1 (by omega) (FU_lt (by omega)) ⟨Nat.le_refl _, fun k t' h2 h3 => ?_⟩
    · intro N t F ht ⟨ht1, hI⟩
      obtain ⟨F', e2, h2⟩ := nm55 hq o (fX5_init_47 N) ht1 ht hI
      refine ⟨F', ⟨by omega, h2⟩, ?_⟩
      show fX5_init_47 (N + 1) a t (hput h q (arr 1 169 F)) = _
      rw [fX5_init_47, if_neg (by omega), e2, fX5_init_112, c32_n (by omega) (by omega), ob]; rfl
    · intro N F ⟨_, hI⟩
      show ∃ r' : Nat → Int, fX5_init_47 (N + 1) a ((13 : Nat) : Int) (hput h q (arr 1 169 F)) = _ ∧ _
      rw [fX5_init_47, if_pos (by omega), fX5_init_118]
      exact ⟨F, rfl, fun k t hkt => hI k t (by omega) hkt⟩
    · have : t' = 0 := by omega
      subst this
      exact h1 k (by omega)
  exact L2
def cNm (q : Nat) (r : Nat → Int) : List AC := [obj 4 [vr (q + 1), vr (q + 2)], arr 1 169 r, arr 1 13 (fun _ => 0)]
theorem i_nm (q : Nat) (b : Hp) (hb : b.1 + 1 = q) : ∃ r : Nat → Int, fX5_init q (ext b [obj 4 [vr 0, vr 0]]) = some (ext b (cNm q r)) ∧ ∀ k t, k + t < 13 → r (13 * k + t) = won t k := by
  obtain ⟨r, e, h⟩ := nm23 (h := ext b [obj 4 [vr (q + 1), vr (q + 2)], arr 1 169 (fun _ => 0), arr 1 13 (fun _ => 0)]) (a := q) (q := q + 1) (q2 := q + 2) (by omega) (hdS hb.symm) (F := fun _ => 0) (ext_at 1 (by omega) rfl)
  refine ⟨r, ?_, h⟩
  unfold fX5_init
  rw [co (hdS hb.symm), ob, rowS hb.symm (q := q + 1) (by simp; omega) (by simp) rfl, rowS hb.symm (q := q + 2) (by simp; omega) (by simp) rfl]
  refine Eq.trans ?_ (e.trans ?_)
  · rfl
  · rw [ext_put (i := 1) (by omega) (by simp)]; rfl
