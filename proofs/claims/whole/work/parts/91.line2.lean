def posOf (F : Nat → Int) (t : Nat) : Nat → Nat
  | 0 => 0
  | i + 1 => if F i = (t : Int) then i else posOf F t i
theorem posOf_eq {n : Nat} {F : Nat → Int} (h : PO n F) {j t : Nat} (hj : j < n) (e : F j = t) : posOf F t n = j := by
  have : ∀ m, m ≤ n → j < m → posOf F t m = j := by
    intro m
    induction m with
    | zero => intro _ hm; omega
    | succ m ih =>
      intro hm hjm
      simp only [posOf]
      by_cases z : F m = (t : Int)
      · rw [if_pos z]; exact h.2.2 m j (by omega) hj (by rw [z, e])
      · rw [if_neg z]
        exact ih (by omega) (by
          rcases Nat.lt_or_ge j m with y | y
          · exact y
          · have : j = m := by omega
            subst this; exact absurd e z)
  exact this n (Nat.le_refl _) hj
/-- the span of a thing -/
def lab (n : Nat) (F : Nat → Int) (M : Nat) : Nat → Int := fun t => (spn M (posOf F t n) : Int)
theorem lab_at {n : Nat} {F : Nat → Int} (h : PO n F) (M : Nat) {j t : Nat} (hj : j < n) (e : F j = t) : lab n F M t = spn M j := by unfold lab; rw [posOf_eq h hj e]
theorem lab_in {n : Nat} {F : Nat → Int} (h : PO n F) (hn1 : 1 ≤ n) (M : Nat) {t : Nat} (ht : t < n) : 0 ≤ lab n F M t ∧ lab n F M t < ((spn M (n - 1) + 1 : Nat) : Int) := by
  obtain ⟨j, hj, e⟩ := h.2.1 t ht
  rw [lab_at h M hj e]
  have := sp_mono (M := M) (show j ≤ n - 1 by omega); omega
theorem lab_on {n : Nat} {F : Nat → Int} (h : PO n F) (hn1 : 1 ≤ n) (M : Nat) {u : Nat} (hu : u < spn M (n - 1) + 1) : ∃ t, t < n ∧ lab n F M t = u := by
  obtain ⟨j, hj, e⟩ := sp_onto (M := M) (n - 1) u (by omega)
  have h1 := h.1 j (by omega)
  refine ⟨(F j).toNat, by omega, ?_⟩
  rw [lab_at h M (j := j) (by omega) (by omega), e]
/-- cost of a set of cuts -/
def Clb (n : Nat) (W X K : Nat → Int) (g : Int) (F : Nat → Int) (M : Nat) : Int := cfold g 0 (fun u => hco n W X K g (pv (lab n F M) u)) (spn M (n - 1) + 1)
theorem Clb_cst {n : Nat} {W X K F b : Nat → Int} {g : Int} (hg3 : g ≠ 3) (hn1 : 1 ≤ n) (hn : n ≤ 12) (h : PO n F) (M : Nat) (hN : RN n (lab n F M) b) : cst n W X K g b = Clb n W X K g F M :=
  cst_lab hg3 hn (fun i hi => lab_in h hn1 M hi) (fun u hu => lab_on h hn1 M hu) hN
theorem sortc {h : Hp} {n : Nat} {P W X K f : Nat → Int} {k : Int} (S : isSc h 2 n P W X K k f) (hn : n ≤ 12) (o : h.2 27 = some LO) {r : Nat → Int} (e : h.2 28 = some (arr 0 12 r)) : fX3_sortThings 27 2 h = some (hput h 28 (arr 0 12 (srt P r n))) := by
  have o' : ∀ F, (hput h 28 (arr 0 12 F)).2 27 = some LO := fun F => (hput_ne (by omega)).trans o
  have S' : ∀ F, isSc (hput h 28 (arr 0 12 F)) 2 n P W X K k f := fun F => isSq.ag S (fun l hl => by obtain ⟨q1, q2⟩ := hl; exact hput_ne (by omega))
  have inn : ∀ (Kk : Nat → Nat → Int → Hp → Option Hp) (t : Nat), t < n → ∀ (a N : Nat) (F : Nat → Int), a ≤ t → a < N → (∀ j, j < a → 0 ≤ F j ∧ F j < 12) → fX3_sortThings_12 Kk N 27 2 t a (hput h 28 (arr 0 12 F)) = Kk 27 2 ((t + 1 : Nat) : Int) (hput h 28 (arr 0 12 (insr P t a F))) := by
    intro Kk t ht a
    induction a with
    | zero =>
      intro N F _ hN _
      obtain ⟨N, rfl⟩ : ∃ k, N = k + 1 := ⟨N - 1, by omega⟩
      rw [fX3_sortThings_12, if_pos (by omega), fX3_sortThings_56, gR 0 (o' F) rfl, ob, ast_of (i := ((0 : Nat) : Int)) 0 hput_eq rfl (by omega), ob, hput_hput, c32_n (by omega) (by omega), ob]; rfl
    | succ a ih =>
      intro N F ha hN hF
      obtain ⟨N, rfl⟩ : ∃ k, N = k + 1 := ⟨N - 1, by omega⟩
      have fa := hF a (by omega)
      have ea : F a = (((F a).toNat : Nat) : Int) := by omega
      have cc : ∀ z : Int, cob (z, hput h 28 (arr 0 12 F)).2 6 2 = some () := fun z => co (S' F).1
      have fn := firstNumber_ok (S' F) (i := (F a).toNat) (by omega)
      rw [← ea] at fn
      rw [fX3_sortThings_12, if_neg (by omega), gR 0 (o' F) rfl, ob, ald_of a hput_eq (by omega) (by omega), ob, co (S' F).1, ob, fn, ob, cc, ob]
      simp only []
      rw [firstNumber_ok (S' F) (by omega), ob]
      simp only [insr]
      by_cases z : P (4 * (F a).toNat) ≤ P (4 * t)
      · rw [if_pos z, if_pos z, fX3_sortThings_56, gR 0 (o' F) rfl, ob, ast_of (a + 1) hput_eq rfl (by omega), ob, hput_hput, c32_n (by omega) (by omega), ob]; rfl
      · rw [if_neg z, if_neg z, gR 0 (o' F) rfl, ob, ob, ald_of a hput_eq (by omega) (by omega), ob, ast_of (a + 1) hput_eq rfl (by omega), ob, hput_hput, c32_n (by omega) (by omega), ob, show ((a + 1 : Nat) : Int) + -1 = (a : Int) by omega]
        exact ih N (ups F (a + 1) (F a)) (by omega) (by omega) (fun j hj => by rw [ups_at, if_neg (by omega)]; exact hF j (by omega))
  unfold fX3_sortThings
  have z := lp (fun N i (F : Nat → Int) => fX3_sortThings_2 N 27 2 i (hput h 28 (arr 0 12 F))) (fun i F => F = srt P r i) n (fun o => o = some (hput h 28 (arr 0 12 (srt P r n)))) ?_ ?_ FU 0 r (Nat.zero_le _) (FU_lt (by omega)) rfl
  · rw [show hput h 28 (arr 0 12 r) = h from hput_self e] at z; exact z
  · intro N i F hi hF
    refine ⟨srt P r (i + 1), rfl, ?_⟩
    have po := srt_po (P := P) (F := r) i
    rw [fX3_sortThings_2, gI 0 (S' F).1 rfl, ob, if_neg (by omega), inn (fX3_sortThings_2 N) i hi i FU F (Nat.le_refl _) (FU_lt (by omega)) (fun j hj => by rw [hF]; have := po.1 j hj; omega), hF]
    rfl
  · intro N F hF
    rw [fX3_sortThings_2, gI 0 (S' F).1 rfl, ob, if_pos (by omega), fX3_sortThings_69, hF]
/-- things at places from a to b, as bits -/
def mo (F : Nat → Int) (a : Nat) : Nat → Nat
  | 0 => 0
  | d + 1 => mo F a d ||| 2 ^ (F (a + d)).toNat
theorem mo_ok {n : Nat} {F : Nat → Int} (h : PO n F) (hn : n ≤ 12) (a : Nat) : ∀ d, a + d ≤ n → mo F a d < 4096 ∧ ∀ t, t < n → ((mo F a d).testBit t = true ↔ ∃ j, a ≤ j ∧ j < a + d ∧ F j = t) := by
  intro d
  induction d with
  | zero => intro _; exact ⟨by show 0 < 4096; omega, fun t ht => ⟨fun z => by simp [mo] at z, fun ⟨j, h1, h2, _⟩ => by omega⟩⟩
  | succ d ih =>
    intro hd
    obtain ⟨h1, h2⟩ := ih (by omega)
    have f1 := h.1 (a + d) (by omega)
    have h2p : 2 ^ (F (a + d)).toNat < 4096 := by
      have : 2 ^ (F (a + d)).toNat ≤ 2 ^ 11 := Nat.pow_le_pow_right (by decide) (by omega)
      omega
    refine ⟨Nat.or_lt_two_pow (n := 12) h1 h2p, fun t ht => ?_⟩
    simp only [mo]
    rw [Nat.testBit_or, Nat.testBit_two_pow, Bool.or_eq_true, h2 t ht]
    constructor
    · rintro (⟨j, q1, q2, q3⟩ | z)
      · exact ⟨j, q1, by omega, q3⟩
      · have : (F (a + d)).toNat = t := by simpa using z
        exact ⟨a + d, by omega, by omega, by omega⟩
    · rintro ⟨j, q1, q2, q3⟩
      by_cases z : j = a + d
      · right
        subst z
        simp; omega
      · exact Or.inl ⟨j, q1, by omega, q3⟩
theorem spans_ok {h : Hp} {n : Nat} {m0 kf : Int} {Pf Wf Xf Kf ff : Nat → Int} (S3 : isSq h 33 n m0 Pf Wf Xf Kf kf ff) (hn1 : 1 ≤ n) (hn : n ≤ 12) (hW : Wok Wf) (hX : Xok Xf Kf) (o : h.2 27 = some LO) {F r : Nat → Int} (e28 : h.2 28 = some (arr 0 12 F)) (hF : PO n F) (e29 : h.2 29 = some (arr 1 144 r)) (g : Int) : ∃ r', fX3_costAllSpans 27 g h = some (hput h 29 (arr 1 144 r')) ∧ ∀ a d, a + d < n → r' (12 * a + (a + d)) = hco n Wf Xf Kf g (mo F a (d + 1)).testBit := by
  have o' : ∀ r, (hput h 29 (arr 1 144 r)).2 27 = some LO := fun r => (hput_ne (by omega)).trans o
  have S' : ∀ r, isSq (hput h 29 (arr 1 144 r)) 33 n m0 Pf Wf Xf Kf kf ff := fun r => isSq.ag S3 (fun l hl => by obtain ⟨q1, q2⟩ := hl; exact hput_ne (by omega))
  have e8 : ∀ r, (hput h 29 (arr 1 144 r)).2 28 = some (arr 0 12 F) := fun r => (hput_ne (by omega)).trans e28
  unfold fX3_costAllSpans
  have z := lp (fun N a (r : Nat → Int) => fX3_costAllSpans_2 N 27 g a (hput h 29 (arr 1 144 r))) (fun a r => ∀ a' d, a' < a → a' + d < n → r (12 * a' + (a' + d)) = hco n Wf Xf Kf g (mo F a' (d + 1)).testBit) n (fun o => ∃ r', o = some (hput h 29 (arr 1 144 r')) ∧ ∀ a d, a + d < n → r' (12 * a + (a + d)) = hco n Wf Xf Kf g (mo F a (d + 1)).testBit) ?_ ?_ FU 0 r (Nat.zero_le _) (FU_lt (by omega)) (fun a' d h1 h2 => by omega)
  · rw [show hput h 29 (arr 1 144 r) = h from hput_self e29] at z; exact z
  · intro N a r ha hr
    have In : ∃ r', fX3_costAllSpans_18 (fX3_costAllSpans_2 N) FU 27 g a ((0 : Nat) : Int) ((a + 0 : Nat) : Int) (hput h 29 (arr 1 144 r)) = fX3_costAllSpans_69 (fX3_costAllSpans_2 N) 27 g a (hput h 29 (arr 1 144 r')) ∧ ∀ a' d, a' < a + 1 → a' + d < n → r' (12 * a' + (a' + d)) = hco n Wf Xf Kf g (mo F a' (d + 1)).testBit := by
      refine lp (fun N' d (r : Nat → Int) => fX3_costAllSpans_18 (fX3_costAllSpans_2 N) N' 27 g a ((mo F a d : Nat) : Int) ((a + d : Nat) : Int) (hput h 29 (arr 1 144 r))) (fun d r => ∀ a' d', (a' < a ∨ (a' = a ∧ d' < d)) → a' + d' < n → r (12 * a' + (a' + d')) = hco n Wf Xf Kf g (mo F a' (d' + 1)).testBit) (n - a) (fun o => ∃ r', o = fX3_costAllSpans_69 (fX3_costAllSpans_2 N) 27 g a (hput h 29 (arr 1 144 r')) ∧ ∀ a' d, a' < a + 1 → a' + d < n → r' (12 * a' + (a' + d)) = hco n Wf Xf Kf g (mo F a' (d + 1)).testBit) ?_ ?_ FU 0 r (Nat.zero_le _) (FU_lt (by omega)) (fun a' d' h1 h2 => hr a' d' (by omega) h2)
      · intro N' d r hd hr
        have f1 := hF.1 (a + d) (by omega)
        have mo1 := (mo_ok hF hn a d (by omega)).1
        have mo2 := (mo_ok hF hn a (d + 1) (by omega)).1
        have h2p : 2 ^ (F (a + d)).toNat < 4096 := by
          have : 2 ^ (F (a + d)).toNat ≤ 2 ^ 11 := Nat.pow_le_pow_right (by decide) (by omega)
          omega
        have eor : bOr ((mo F a d : Nat) : Int) (bShl 1 (F (a + d))) = ((mo F a (d + 1) : Nat) : Int) := by
          rw [show F (a + d) = (((F (a + d)).toNat : Nat) : Int) by omega, bShl_1 _ (by omega), bOr_n (by omega) (by omega)]; rfl
        rw [fX3_costAllSpans_18, gR 3 (o' r) rfl, ob, gI 0 (S' r).1 rfl, ob, if_neg (by omega), gR 0 (o' r) rfl, ob, ald_of (a + d) (e8 r) rfl (by omega), ob, gR 1 (o' r) rfl, ob, ob, eor, ofHeap_ok (S' r) hn1 hn hW hX (by omega), ob]
        simp only []
        rw [ast_of (12 * a + (a + d)) hput_eq (by omega) (by omega), ob, hput_hput, c32_n (by omega) (by omega), ob]
        refine ⟨_, fun a' d' h1 h2 => ?_, rfl⟩
        rw [ups_at]
        by_cases w : a' = a ∧ d' = d
        · obtain ⟨rfl, rfl⟩ := w
          rw [if_pos rfl]
        · rw [if_neg (by omega)]; exact hr a' d' (by omega) h2
      · intro N' r hr
        rw [fX3_costAllSpans_18, gR 3 (o' r) rfl, ob, gI 0 (S' r).1 rfl, ob, if_pos (by omega)]
        exact ⟨r, rfl, fun a' d h1 h2 => hr a' d (by omega) h2⟩
    obtain ⟨r', e2, hr'⟩ := In
    refine ⟨r', hr', ?_⟩
    have e2' : fX3_costAllSpans_18 (fX3_costAllSpans_2 N) FU 27 g a 0 a (hput h 29 (arr 1 144 r)) = fX3_costAllSpans_69 (fX3_costAllSpans_2 N) 27 g a (hput h 29 (arr 1 144 r')) := e2
    rw [fX3_costAllSpans_2, gR 3 (o' r) rfl, ob, gI 0 (S' r).1 rfl, ob, if_neg (by omega), e2', fX3_costAllSpans_69, c32_n (by omega) (by omega), ob]; rfl
  · intro N r hr
    rw [fX3_costAllSpans_2, gR 3 (o' r) rfl, ob, gI 0 (S' r).1 rfl, ob, if_pos (by omega), fX3_costAllSpans_75]
    exact ⟨r, rfl, fun a d h => hr a d (by omega) h⟩
theorem endsAt_ok {h : Hp} {n : Nat} {m0 kf : Int} {Pf Wf Xf Kf ff : Nat → Int} (S3 : isSq h 33 n m0 Pf Wf Xf Kf kf ff) (hn1 : 1 ≤ n) (hn : n ≤ 12) (o : h.2 27 = some LO) {M at_ : Nat} (hM : M < 4096) (ha : at_ < n) : fX3_endsAt 27 M at_ h = some (if at_ = n - 1 ∨ M.testBit at_ = true then 1 else 0, h) := by
  unfold fX3_endsAt
  simp only [fX3_endsAt_21, fX3_endsAt_26]
  rw [gR 3 o rfl, ob, gI 0 S3.1 rfl, ob, c32_n (by omega) (by omega), ob]
  by_cases z : at_ = n - 1
  · rw [if_pos (by omega), cbo_n (Or.inr rfl), ob, if_pos (Or.inl z)]
  · rw [if_neg (by omega), has_ok h (by omega) (by omega), ob]
    by_cases y : M.testBit at_ = true
    · rw [if_pos y, if_neg one0, cbo_n (Or.inr rfl), ob, if_pos (Or.inr y)]
    · rw [if_neg y, if_pos rfl, cbo_n (Or.inl rfl), ob, if_neg (fun w => w.elim z y)]
theorem lcost_ok {h : Hp} {n : Nat} {m0 kf : Int} {Pf Wf Xf Kf ff : Nat → Int} (S3 : isSq h 33 n m0 Pf Wf Xf Kf kf ff) (hn1 : 1 ≤ n) (hn : n ≤ 12) (hW : Wok Wf) (hX : Xok Xf Kf) (o : h.2 27 = some LO) {F r : Nat → Int} (hF : PO n F) (e29 : h.2 29 = some (arr 1 144 r)) {g : Int} (hr : ∀ a d, a + d < n → r (12 * a + (a + d)) = hco n Wf Xf Kf g (mo F a (d + 1)).testBit) {M : Nat} (hM : M < 4096) : fX3_costOf 27 g M h = some (Clb n Wf Xf Kf g F M, h) := by
  unfold fX3_costOf
  -- a span's cost is its heap's
  have span : ∀ i, i < n → (i = n - 1 ∨ M.testBit i = true) → r (12 * sbn M i + i) = hco n Wf Xf Kf g (pv (lab n F M) (spn M i)) := by
    intro i hi hend
    have hsb : sbn M i ≤ i := (sb_iff i i (Nat.le_refl _)).mpr rfl
    have := hr (sbn M i) (i - sbn M i) (by omega)
    rw [show sbn M i + (i - sbn M i) = i by omega] at this
    rw [this]
    refine hco_congr hn (fun _ _ => rfl) (fun _ _ => rfl) (fun _ _ => rfl) (fun t ht => ?_) g
    have hb := (mo_ok hF hn (sbn M i) (i - sbn M i + 1) (by omega)).2 t ht
    obtain ⟨j, hj, ej⟩ := hF.2.1 t ht
    have el := lab_at hF M hj ej
    have iff1 : (mo F (sbn M i) (i - sbn M i + 1)).testBit t = true ↔ lab n F M t = (spn M i : Int) := by
      rw [hb, el]
      constructor
      · rintro ⟨j', q1, q2, q3⟩
        have : j' = j := hF.2.2 j' j (by omega) hj (by rw [q3, ej])
        subst this
        have := (sb_iff i j' (by omega)).mp q1
        omega
      · intro z
        have z : spn M j = spn M i := by omega
        have hji : j ≤ i := by
          rcases Nat.lt_or_ge i j with w | w
          · exfalso
            rcases hend with y | y
            · omega
            · have h1 : spn M (i + 1) = spn M i + 1 := by simp only [spn]; rw [if_pos y]
              have h2 := sp_mono (M := M) (show i + 1 ≤ j by omega)
              omega
          · exact w
        exact ⟨j, (sb_iff i j hji).mpr z, by omega, ej⟩
    unfold pv
    by_cases z : lab n F M t = (spn M i : Int)
    · rw [iff1.mpr z]; simp [z]
    · have : ¬ (mo F (sbn M i) (i - sbn M i + 1)).testBit t = true := fun y => z (iff1.mp y)
      simp only [Bool.not_eq_true] at this
      rw [this]; simp [z]
  have bd : ∀ u, -1000000000000000 ≤ hco n Wf Xf Kf g (pv (lab n F M) u) ∧ hco n Wf Xf Kf g (pv (lab n F M) u) ≤ 1000000000000000 := fun u => hco_bd hn hW hX g _
  have cb : ∀ u : Nat, -(u * 1000000000000000 : Int) ≤ cfold g 0 (fun u => hco n Wf Xf Kf g (pv (lab n F M) u)) u ∧ cfold g 0 (fun u => hco n Wf Xf Kf g (pv (lab n F M) u)) u ≤ (u * 1000000000000000 : Int) := by
    intro u
    induction u with
    | zero => simp [cfold]
    | succ u ih => have := bd u; simp only [cfold]; split <;> omega
  refine lp (fun N i (z : Int × Nat) => fX3_costOf_8 N 27 g M z.1 z.2 i h) (fun i z => (i < n → z.1 = cfold g 0 (fun u => hco n Wf Xf Kf g (pv (lab n F M) u)) (spn M i) ∧ z.2 = sbn M i) ∧ (i = n → z.1 = Clb n Wf Xf Kf g F M)) n (fun q => q = some (Clb n Wf Xf Kf g F M, h)) ?_ ?_ FU 0 (0, 0) (Nat.zero_le _) (FU_lt (by omega)) ⟨fun _ => ⟨rfl, rfl⟩, fun z => by omega⟩
  · intro N i ⟨c, a⟩ hi ⟨h1, _⟩
    obtain ⟨h1, h2⟩ := h1 hi
    have h1 : c = cfold g 0 (fun u => hco n Wf Xf Kf g (pv (lab n F M) u)) (spn M i) := h1
    have h2 : a = sbn M i := h2
    have hsb : sbn M i ≤ i := (sb_iff i i (Nat.le_refl _)).mpr rfl
    have hcb := cb (spn M i); have hsl := sp_le M i
    have hb1 := bd (spn M i)
    show ∃ s' : Int × Nat, _ ∧ fX3_costOf_8 (N + 1) 27 g M c a i h = _
    rw [fX3_costOf_8, gR 3 o rfl, ob, gI 0 S3.1 rfl, ob, if_neg (by omega), co o, ob, endsAt_ok S3 hn1 hn o hM hi, ob]
    by_cases z : i = n - 1 ∨ M.testBit i = true
    · have hsp := span i hi z
      rw [if_pos z, if_neg one0]
      simp only []
      rw [gR 1 o rfl, ob, ald_of (12 * a + i) e29 (by omega) (by omega), ob, h2, hsp]
      refine ⟨(if g = 2 then max c (hco n Wf Xf Kf g (pv (lab n F M) (spn M i))) else c + hco n Wf Xf Kf g (pv (lab n F M) (spn M i)), i + 1), ⟨fun hin => ?_, fun hin => ?_⟩, ?_⟩
      · have y : M.testBit i = true := z.resolve_left (by omega)
        have e1 : spn M (i + 1) = spn M i + 1 := by simp only [spn]; rw [if_pos y]
        have e2 : sbn M (i + 1) = i + 1 := by simp only [sbn]; rw [if_pos y]
        rw [e1, e2]
        exact ⟨by simp only [cfold]; rw [h1], rfl⟩
      · have : i = n - 1 := by omega
        unfold Clb
        show _ = cfold g 0 _ (spn M (n - 1) + 1)
        rw [← this]
        simp only [cfold]; rw [h1]
      · unfold fX0_with
        simp only [fX0_with_16]
        by_cases g2 : g = 2
        · rw [if_pos g2, ob, c32_n (by omega) (by omega), ob, fX3_costOf_55, if_pos g2]
          simp only []
          rw [c32_n (by omega) (by omega), ob]; rfl
        · rw [if_neg g2, c64_n (by omega) (by omega), ob, ob, c32_n (by omega) (by omega), ob, fX3_costOf_55, if_neg g2]
          simp only []
          rw [c32_n (by omega) (by omega), ob]; rfl
    · have y : ¬ M.testBit i = true := fun w => z (Or.inr w)
      have hin : i ≠ n - 1 := fun w => z (Or.inl w)
      rw [if_neg z, if_pos rfl, fX3_costOf_55, c32_n (by omega) (by omega), ob]
      refine ⟨(c, a), ⟨fun _ => ?_, fun w => by omega⟩, rfl⟩
      have e1 : spn M (i + 1) = spn M i := by simp only [spn]; rw [if_neg y]
      have e2 : sbn M (i + 1) = sbn M i := by simp only [sbn]; rw [if_neg y]
      rw [e1, e2]; exact ⟨h1, h2⟩
  · intro N ⟨c, a⟩ ⟨_, h1⟩
    show fX3_costOf_8 (N + 1) 27 g M c a n h = _
    rw [fX3_costOf_8, gR 3 o rfl, ob, gI 0 S3.1 rfl, ob, if_pos (by omega), fX3_costOf_61, show c = _ from h1 rfl]
