section
variable {h : Hp} {n : Nat} {k : Int} {P W X K f : Nat → Int}
theorem pulls_b (S : isSc h 2 n P W X K k f) {i j : Nat} (hi : i < 12) (hj : j < 12) : fX7_pulls 2 i j h = some (if pul X K i j = true then 1 else 0, h) := by
  rw [pulls_ok S hi hj]
  unfold pul
  by_cases z : 0 < X (12 * i + j) ∧ K (12 * i + j) = 1
  · rw [if_pos z, if_pos (by simpa using z)]
  · rw [if_neg z, if_neg (by simpa using z)]
theorem likedBy_ok (S : isSc h 2 n P W X K k f) (hn : n ≤ 12) {p M : Nat} (hp : p < 12) (hM : M < 4096) : ∃ m : Nat, fX2_likedBy 2 p M h = some ((m : Int), h) ∧ m < 4096 ∧ ∀ b, b < 12 → (m.testBit b = true ↔ b = p ∨ (b < n ∧ M.testBit b = true ∧ pul X K p b = true)) := by
  unfold fX2_likedBy
  have h2p : 2 ^ p < 4096 := by
    have : 2 ^ p ≤ 2 ^ 11 := Nat.pow_le_pow_right (by decide) (by omega)
    omega
  rw [bShl_1 p (by omega)]
  refine lp (fun N i (m : Nat) => fX2_likedBy_7 N 2 p M m i h) (fun i m => m < 4096 ∧ ∀ b, b < 12 → (m.testBit b = true ↔ b = p ∨ (b < i ∧ M.testBit b = true ∧ pul X K p b = true))) n (fun r => ∃ m : Nat, r = some ((m : Int), h) ∧ m < 4096 ∧ ∀ b, b < 12 → (m.testBit b = true ↔ b = p ∨ (b < n ∧ M.testBit b = true ∧ pul X K p b = true))) ?_ ?_ FU 0 (2 ^ p) (Nat.zero_le _) (FU_lt (by omega)) ⟨h2p, fun b hb => ?_⟩
  · intro N i m hi ⟨h1, h2⟩
    have skip : ¬ (M.testBit i = true ∧ pul X K p i = true) → ∀ b, b < 12 → (m.testBit b = true ↔ b = p ∨ (b < i + 1 ∧ M.testBit b = true ∧ pul X K p b = true)) := by
      intro hne b hb
      rw [h2 b hb]
      constructor
      · rintro (z | ⟨z1, z2, z3⟩)
        · exact Or.inl z
        · exact Or.inr ⟨by omega, z2, z3⟩
      · rintro (z | ⟨z1, z2, z3⟩)
        · exact Or.inl z
        · by_cases y : b = i
          · subst y; exact absurd ⟨z2, z3⟩ hne
          · exact Or.inr ⟨by omega, z2, z3⟩
    rw [fX2_likedBy_7, gI 0 S.1 rfl, ob, if_neg (by omega), has_ok h (by omega) (by omega), ob]
    by_cases e1 : M.testBit i = true
    · rw [if_pos e1, if_neg one0]
      simp only []
      rw [co S.1, ob, pulls_b S hp (by omega), ob]
      by_cases e2 : pul X K p i = true
      · have h2i : 2 ^ i < 4096 := by
          have : 2 ^ i ≤ 2 ^ 11 := Nat.pow_le_pow_right (by decide) (by omega)
          omega
        refine ⟨m ||| 2 ^ i, ⟨Nat.or_lt_two_pow (n := 12) h1 h2i, fun b hb => ?_⟩, ?_⟩
        · rw [Nat.testBit_or, Nat.testBit_two_pow, Bool.or_eq_true, h2 b hb]
          constructor
          · rintro ((z | ⟨z1, z2, z3⟩) | z)
            · exact Or.inl z
            · exact Or.inr ⟨by omega, z2, z3⟩
            · have : i = b := by simpa using z
              subst this
              exact Or.inr ⟨by omega, e1, e2⟩
          · rintro (z | ⟨z1, z2, z3⟩)
            · exact Or.inl (Or.inl z)
            · by_cases y : b = i
              · exact Or.inr (by simp [y])
              · exact Or.inl (Or.inr ⟨by omega, z2, z3⟩)
        · rw [if_pos e2, if_neg one0, bShl_1 i (by omega), bOr_n (by omega) (by omega), fX2_likedBy_42, c32_n (by omega) (by omega), ob]; rfl
      · refine ⟨m, ⟨h1, skip (fun z => e2 z.2)⟩, ?_⟩
        rw [if_neg e2, if_pos rfl, fX2_likedBy_42, c32_n (by omega) (by omega), ob]; rfl
    · refine ⟨m, ⟨h1, skip (fun z => e1 z.1)⟩, ?_⟩
      rw [if_neg e1, if_pos rfl, fX2_likedBy_42, c32_n (by omega) (by omega), ob]; rfl
  · intro N m ⟨h1, h2⟩
    rw [fX2_likedBy_7, gI 0 S.1 rfl, ob, if_pos (by omega), fX2_likedBy_48]
    exact ⟨m, rfl, h1, h2⟩
  · rw [Nat.testBit_two_pow]
    constructor
    · intro z
      have : p = b := by simpa using z
      exact Or.inl this.symm
    · rintro (z | ⟨z1, -⟩)
      · simp [z]
      · omega
theorem c_gath (S : isSc h 2 n P W X K k f) (hn1 : 1 ≤ n) (hn : n ≤ 12) (o : h.2 44 = some (obj 1 [vr 45, vr 46])) {Od : Nat → Int} (e : h.2 45 = some (arr 0 12 Od)) {ord : Nat → Nat} (ho : ∀ i, i < n → Od i = ord i ∧ ord i < n) (hsur : ∀ t, t < n → ∃ i, i < n ∧ ord i = t) :
    ∃ (h' : Hp) (g : Nat → Int), fX2_gather 44 2 h = some h' ∧ isPt h' 7 n (mx g n) g ∧ RN n (gl X K ord n).1 g ∧ Fr (fun k => 7 ≤ k ∧ k ≤ 9) h h' := by
  have h2n : bShl 1 ((n : Nat) : Int) - 1 = ((2 ^ n - 1 : Nat) : Int) := by
    rw [bShl_1 _ (by omega)]
    have : 1 ≤ 2 ^ n := Nat.one_le_two_pow
    omega
  have h2p : 2 ^ n ≤ 2 ^ 12 := Nat.pow_le_pow_right (by decide) hn
  unfold fX2_gather
  rw [gR 5 S.1 rfl, ob, gI 0 S.1 rfl, ob, h2n, c32_n (by omega) (by omega), ob]
  have S' : ∀ F, isSc (hput h 8 (arr 0 12 F)) 2 n P W X K k F := fun F => S.fF F
  have o' : ∀ F, (hput h 8 (arr 0 12 F)).2 44 = some (obj 1 [vr 45, vr 46]) := fun F => (hput_ne (by omega)).trans o
  have e' : ∀ F, (hput h 8 (arr 0 12 F)).2 45 = some (arr 0 12 Od) := fun F => (hput_ne (by omega)).trans e
  have z := lp (fun N i (z : Nat × Int × (Nat → Int)) => fX2_gather_20 N 44 2 7 z.1 z.2.1 i (hput h 8 (arr 0 12 z.2.2))) (fun i z => z.1 < 4096 ∧ z.2.1 = (gl X K ord i).2 ∧ (∀ b, b < 12 → (z.1.testBit b = true ↔ b < n ∧ (gl X K ord i).1 b = -1)) ∧ ∀ b, b < n → (gl X K ord i).1 b ≠ -1 → z.2.2 b = (gl X K ord i).1 b) n (fun r => ∃ (h' : Hp) (g : Nat → Int), r = some h' ∧ isPt h' 7 n (mx g n) g ∧ RN n (gl X K ord n).1 g ∧ Fr (fun k => 7 ≤ k ∧ k ≤ 9) h h') ?_ ?_ FU 0 (2 ^ n - 1, 0, f) (Nat.zero_le _) (FU_lt (by omega)) ⟨by show 2 ^ n - 1 < 4096; omega, rfl, fun b hb => ?_, fun b hb hne => absurd rfl hne⟩
  · have z : ∃ (h' : Hp) (g : Nat → Int), fX2_gather_20 FU 44 2 7 ((2 ^ n - 1 : Nat) : Int) 0 ((0 : Nat) : Int) (hput h 8 (arr 0 12 f)) = some h' ∧ isPt h' 7 n (mx g n) g ∧ RN n (gl X K ord n).1 g ∧ Fr (fun k => 7 ≤ k ∧ k ≤ 9) h h' := z
    rw [show hput h 8 (arr 0 12 f) = h from hput_self S.2.2.2.2.2.2.1] at z
    exact z
  · intro N i ⟨M, c, F⟩ hi ⟨h1, h3, h4, h5⟩
    have h1 : M < 4096 := h1
    have h3 : c = (gl X K ord i).2 := h3
    have h4 : ∀ b, b < 12 → (M.testBit b = true ↔ b < n ∧ (gl X K ord i).1 b = -1) := h4
    have h5 : ∀ b, b < n → (gl X K ord i).1 b ≠ -1 → F b = (gl X K ord i).1 b := h5
    have oi := ho i hi
    have bd := gl_bd X K ord i
    show ∃ s', _ ∧ fX2_gather_20 (N + 1) 44 2 7 M c i (hput h 8 (arr 0 12 F)) = _
    rw [fX2_gather_20, gI 0 (S' F).1 rfl, ob, if_neg (by omega), gR 0 (o' F) rfl, ob, ald_of i (e' F) rfl (by omega), ob, oi.1, has_ok _ (by omega) (by omega), ob]
    by_cases e1 : M.testBit (ord i) = true
    · have e2 := ((h4 _ (by omega)).mp e1).2
      rw [if_pos e1, if_neg one0]
      simp only []
      rw [gR 0 (o' F) rfl, ob, ald_of i (e' F) rfl (by omega), ob, oi.1]
      obtain ⟨m, em, hm, hmb⟩ := likedBy_ok (S' F) hn (p := ord i) (M := M) (by omega) h1
      rw [em, ob]
      simp only []
      have L : ∃ F2, fX2_gather_63 (fX2_gather_20 N) FU 44 2 7 M c i m 0 (hput h 8 (arr 0 12 F)) = fX2_gather_97 (fX2_gather_20 N) 44 2 7 M c i m (hput h 8 (arr 0 12 F2)) ∧ ∀ b, b < n → F2 b = if m.testBit b = true then c else F b := by
        refine lp (fun N' t (F2 : Nat → Int) => fX2_gather_63 (fX2_gather_20 N) N' 44 2 7 M c i m t (hput h 8 (arr 0 12 F2))) (fun t F2 => (∀ b, b < t → F2 b = if m.testBit b = true then c else F b) ∧ ∀ b, t ≤ b → F2 b = F b) n (fun r => ∃ F2, r = fX2_gather_97 (fX2_gather_20 N) 44 2 7 M c i m (hput h 8 (arr 0 12 F2)) ∧ ∀ b, b < n → F2 b = if m.testBit b = true then c else F b) ?_ ?_ FU 0 F (Nat.zero_le _) (FU_lt (by omega)) ⟨fun b hb => by omega, fun _ _ => rfl⟩
        · intro N' t F2 ht ⟨q1, q2⟩
          rw [fX2_gather_63, gI 0 (S' F2).1 rfl, ob, if_neg (by omega), has_ok _ (by omega) (by omega), ob]
          by_cases w : m.testBit t = true
          · refine ⟨ups F2 t c, ⟨fun b hb => ?_, fun b hb => ?_⟩, ?_⟩
            · rw [ups_at]
              by_cases y : b = t
              · subst y; rw [if_pos rfl, if_pos w]
              · rw [if_neg y]; exact q1 b (by omega)
            · rw [ups_at, if_neg (by omega)]; exact q2 b (by omega)
            · rw [if_pos w, if_neg one0]
              simp only []
              rw [gR 2 (S' F2).2.2.2.2.2.1 rfl, ob, ast_of t (S' F2).2.2.2.2.2.2.1 rfl (by omega), ob, hput_hput, fX2_gather_91, c32_n (by omega) (by omega), ob]; rfl
          · refine ⟨F2, ⟨fun b hb => ?_, fun b hb => q2 b (by omega)⟩, ?_⟩
            · by_cases y : b = t
              · subst y; rw [if_neg w]; exact q2 b (Nat.le_refl _)
              · exact q1 b (by omega)
            · rw [if_neg w, if_pos rfl, fX2_gather_91, c32_n (by omega) (by omega), ob]; rfl
        · intro N' F2 ⟨q1, q2⟩
          rw [fX2_gather_63, gI 0 (S' F2).1 rfl, ob, if_pos (by omega)]
          exact ⟨F2, rfl, q1⟩
      obtain ⟨F2, e3, hF2⟩ := L
      have egl : gl X K ord (i + 1) = (gst X K (gl X K ord i).1 (gl X K ord i).2 (ord i), (gl X K ord i).2 + 1) := by
        show (if (gl X K ord i).1 (ord i) = -1 then _ else _) = _
        rw [if_pos e2]
      have hmem : ∀ b, b < n → (m.testBit b = true ↔ ((gl X K ord i).1 b = -1 ∧ (b = ord i ∨ pul X K (ord i) b = true))) := by
        intro b hb
        rw [hmb b (by omega)]
        constructor
        · rintro (z | ⟨z1, z2, z3⟩)
          · subst z; exact ⟨e2, Or.inl rfl⟩
          · exact ⟨((h4 b (by omega)).mp z2).2, Or.inr z3⟩
        · rintro ⟨z1, z2 | z2⟩
          · exact Or.inl z2
          · exact Or.inr ⟨hb, (h4 b (by omega)).mpr ⟨hb, z1⟩, z2⟩
      refine ⟨(ndf M m, c + 1, F2), ⟨Nat.lt_of_le_of_lt (ndf_le (by omega)) h1, by show c + 1 = (gl X K ord (i + 1)).2; rw [egl, h3], fun b hb => ?_, fun b hb hne => ?_⟩, ?_⟩
      · show (ndf M m).testBit b = true ↔ _
        rw [ndf_bit (by omega) (by omega), egl]
        show (M.testBit b && !m.testBit b) = true ↔ b < n ∧ gst X K (gl X K ord i).1 (gl X K ord i).2 (ord i) b = -1
        unfold gst
        rw [Bool.and_eq_true, h4 b hb]
        by_cases hbn : b < n
        · have hx := hmem b hbn
          by_cases w : m.testBit b = true
          · rw [if_pos (hx.mp w)]
            constructor
            · rintro ⟨-, y⟩; simp [w] at y
            · rintro ⟨-, y⟩; omega
          · rw [if_neg (fun y => w (hx.mpr y))]
            simp only [Bool.not_eq_true] at w
            simp [w]
        · constructor
          · rintro ⟨⟨y, -⟩, -⟩; omega
          · rintro ⟨y, -⟩; omega
      · show F2 b = (gl X K ord (i + 1)).1 b
        rw [egl] at hne ⊢
        show F2 b = gst X K (gl X K ord i).1 (gl X K ord i).2 (ord i) b
        have hne : gst X K (gl X K ord i).1 (gl X K ord i).2 (ord i) b ≠ -1 := hne
        unfold gst at hne ⊢
        rw [hF2 b hb]
        have hx := hmem b hb
        by_cases w : m.testBit b = true
        · rw [if_pos w, if_pos (hx.mp w), h3]
        · rw [if_neg w, if_neg (fun y => w (hx.mpr y))]
          rw [if_neg (fun y => w (hx.mpr y))] at hne
          exact h5 b hb hne
      · rw [e3, fX2_gather_97, c32_n (by omega) (by omega), ob, bNot_n (by omega), fX2_gather_107, c32_n (by omega) (by omega), ob]; rfl
    · have e2 : ¬ (gl X K ord i).1 (ord i) = -1 := fun y => e1 ((h4 _ (by omega)).mpr ⟨oi.2, y⟩)
      have egl : gl X K ord (i + 1) = gl X K ord i := by
        show (if (gl X K ord i).1 (ord i) = -1 then _ else _) = _
        rw [if_neg e2]
      refine ⟨(M, c, F), ?_, ?_⟩
      · rw [egl]; exact ⟨h1, h3, h4, h5⟩
      · rw [if_neg e1, if_pos rfl, fX2_gather_107, c32_n (by omega) (by omega), ob]; rfl
  · intro N ⟨M, c, F⟩ ⟨h1, h3, h4, h5⟩
    have h5 : ∀ b, b < n → (gl X K ord n).1 b ≠ -1 → F b = (gl X K ord n).1 b := h5
    have bd := gl_bd X K ord n
    have al : ∀ b, b < n → F b = (gl X K ord n).1 b ∧ (gl X K ord n).1 b ≠ -1 := by
      intro b hb
      obtain ⟨i, hi, eb⟩ := hsur b hb
      have := gl_all X K ord n i hi
      rw [eb] at this
      exact ⟨h5 b hb this, this⟩
    have P5 : isPt (hput h 8 (arr 0 12 F)) 7 n k F := (S' F).2.2.2.2.2
    obtain ⟨h2', g, e3, P3, N3, F3⟩ := renumber_ok hn P5 (fun i hi => by
      have := al i hi; have := bd.2.2 i; have := bd.2.1; omega)
    show ∃ (h' : Hp) (g : Nat → Int), fX2_gather_20 (N + 1) 44 2 7 M c n (hput h 8 (arr 0 12 F)) = some h' ∧ _
    rw [fX2_gather_20, gI 0 (S' F).1 rfl, ob, if_pos (by omega), fX2_gather_113, co P5.1, ob, e3, ob]
    exact ⟨h2', g, rfl, P3, ⟨N3.1, fun i j hi hj => by rw [N3.2 i j hi hj, (al i hi).1, (al j hj).1]⟩, (Fr.rf.put (q := 8) (by omega)).tr (F3.mono (fun k hk => by rcases hk with z | z | z <;> omega))⟩
  · show (2 ^ n - 1).testBit b = true ↔ b < n ∧ (-1 : Int) = -1
    rw [Nat.testBit_two_pow_sub_one]
    simp
end
