/-! thirds, the class's side: what the first thing's heap costs -/
section
variable {h : Hp} {n : Nat} {P W X K f : Nat → Int} {k : Int}
def tkt (X K : Nat → Int) (A B a b : Nat) : Int := if (b < a ∧ A.testBit b = true ∧ K (12 * a + b) = 0) ∨ (B.testBit b = true ∧ K (12 * a + b) = 1) then X (12 * a + b) else 0
theorem tk121 (K5' : Nat → Int → Int → Int → Int → Hp → Option (Int × Hp)) (K17 : Nat → Int → Int → Int → Int → Int → Hp → Option (Int × Hp)) (A B c a : Int) (b : Nat) (v : Int) (hb : b < 1000) (hc : -2000000 ≤ c ∧ c ≤ 2000000) (hv : 0 ≤ v ∧ v ≤ 1000) : fX2_costOfTaking_121 K5' K17 2 A B a b v c h = K17 2 A B (c + v) a ((b + 1 : Nat) : Int) h := by
  rw [fX2_costOfTaking_121, c64_n (by omega) (by omega), ob, c32_n (by omega) (by omega), ob]; rfl
theorem tk108 (S : isSc h 2 n P W X K k f) (hX : Xok X K) (K5' : Nat → Int → Int → Int → Int → Hp → Option (Int × Hp)) (K17 : Nat → Int → Int → Int → Int → Int → Hp → Option (Int × Hp)) (A B c : Int) {a b : Nat} (ha : a < 12) (hb : b < 12) (hc : -2000000 ≤ c ∧ c ≤ 2000000) : fX2_costOfTaking_108 K5' K17 2 A B a b c h = K17 2 A B (c + X (12 * a + b)) a ((b + 1 : Nat) : Int) h := by
  have hx := (hX (12 * a + b) (by omega)).1
  rw [fX2_costOfTaking_108, co S.1, ob, weightOf_ok S ha hb, ob]
  exact tk121 K5' K17 A B c a b _ (by omega) hc hx
theorem tk94 (K5' : Nat → Int → Int → Int → Int → Hp → Option (Int × Hp)) (K17 : Nat → Int → Int → Int → Int → Int → Hp → Option (Int × Hp)) (A B c a : Int) (b : Nat) (hb : b < 1000) (hc : -2000000 ≤ c ∧ c ≤ 2000000) : fX2_costOfTaking_94 K5' K17 2 A B c a b 0 h = K17 2 A B (c + 0) a ((b + 1 : Nat) : Int) h := by
  rw [fX2_costOfTaking_94, fX2_costOfTaking_95, if_pos rfl, if_pos rfl]
  exact tk121 K5' K17 A B c a b 0 hb hc ⟨by omega, by omega⟩
theorem tk67 (S : isSc h 2 n P W X K k f) (hX : Xok X K) (K5' : Nat → Int → Int → Int → Int → Hp → Option (Int × Hp)) (K17 : Nat → Int → Int → Int → Int → Int → Hp → Option (Int × Hp)) (A : Int) {B : Nat} (hB : B < 4096) (c : Int) {a b : Nat} (ha : a < 12) (hb : b < 12) (hc : -2000000 ≤ c ∧ c ≤ 2000000) (s0 : Int) : fX2_costOfTaking_67 K5' K17 2 A B c a b s0 h = if s0 ≠ 0 ∨ (B.testBit b = true ∧ K (12 * a + b) = 1) then K17 2 A B (c + X (12 * a + b)) a ((b + 1 : Nat) : Int) h else K17 2 A B (c + 0) a ((b + 1 : Nat) : Int) h := by
  have l94 : ∀ s0 : Int, fX2_costOfTaking_94 K5' K17 2 A B c a b s0 h = if s0 ≠ 0 then K17 2 A B (c + X (12 * a + b)) a ((b + 1 : Nat) : Int) h else K17 2 A B (c + 0) a ((b + 1 : Nat) : Int) h := by
    intro s0
    by_cases z : s0 = 0
    · subst z
      rw [if_neg (by simp)]
      exact tk94 K5' K17 A B c a b (by omega) hc
    · rw [if_pos z, fX2_costOfTaking_94, fX2_costOfTaking_95, if_neg z]
      exact tk108 S hX K5' K17 A B c ha hb hc
  rw [fX2_costOfTaking_67, has_ok h (by omega) (by omega), ob]
  by_cases y : B.testBit b = true
  · rw [if_pos y, if_neg one0]
    show ((cob h 6 2).bind fun _ => _) = _
    rw [co S.1, ob]
    show ((fX7_likeOf 2 a b h).bind fun _ => _) = _
    rw [likeOf_ok S ha hb, ob]
    by_cases w : K (12 * a + b) = 1
    · rw [if_pos w, if_pos (Or.inr ⟨y, w⟩)]
      show fX2_costOfTaking_95 K5' K17 2 A B c a b s0 1 h = _
      rw [fX2_costOfTaking_95]
      by_cases z : s0 = 0
      · rw [if_pos z, if_neg (by decide)]
        exact tk108 S hX K5' K17 A B c ha hb hc
      · rw [if_neg z]
        exact tk108 S hX K5' K17 A B c ha hb hc
    · rw [if_neg w]
      show fX2_costOfTaking_94 K5' K17 2 A B c a b s0 h = _
      rw [l94]
      by_cases z : s0 = 0
      · rw [if_neg (by simp [z]), if_neg (by intro v; rcases v with v | v; exact v z; exact w v.2)]
      · rw [if_pos z, if_pos (Or.inl z)]
  · rw [if_neg y, if_pos rfl]
    show fX2_costOfTaking_94 K5' K17 2 A B c a b s0 h = _
    rw [l94]
    by_cases z : s0 = 0
    · rw [if_neg (by simp [z]), if_neg (by intro v; rcases v with v | v; exact v z; exact y v.1)]
    · rw [if_pos z, if_pos (Or.inl z)]
theorem tk17 (S : isSc h 2 n P W X K k f) (hn : n ≤ 12) (hX : Xok X K) {A B : Nat} (hA : A < 4096) (hB : B < 4096) {a : Nat} (ha : a < 12) (hAa : A.testBit a = true) {c : Int} (hc : -1000000 ≤ c ∧ c ≤ 1000000) (K5' : Nat → Int → Int → Int → Int → Hp → Option (Int × Hp)) : fX2_costOfTaking_17 K5' FU 2 A B c a 0 h = fX2_costOfTaking_129 K5' 2 A B (c + sumN n (tkt X K A B a)) a h := by
  refine lpsum (fun N b c => fX2_costOfTaking_17 K5' N 2 A B c a b h) (tkt X K A B a) n 0 c 1000 _ (by omega) (Nat.zero_le _) (fun i hi => by omega) (fun b hb => ?_) ?_ ?_
  · have := (hX (12 * a + b) (by omega)).1
    unfold tkt; split <;> omega
  · intro N b c' _ hb h2 h3
    have hc' : -2000000 ≤ c' ∧ c' ≤ 2000000 := by omega
    have hx := hX (12 * a + b) (by omega)
    show fX2_costOfTaking_17 K5' (N + 1) 2 A B c' a b h = fX2_costOfTaking_17 K5' N 2 A B (c' + tkt X K A B a b) a ((b + 1 : Nat) : Int) h
    have e67 : ∀ s0 : Int, (s0 ≠ 0 ↔ (b < a ∧ A.testBit b = true ∧ K (12 * a + b) = 0)) → fX2_costOfTaking_67 K5' (fX2_costOfTaking_17 K5' N) 2 A B c' a b s0 h = fX2_costOfTaking_17 K5' N 2 A B (c' + tkt X K A B a b) a ((b + 1 : Nat) : Int) h := by
      intro s0 hs
      rw [tk67 S hX _ _ A hB c' ha (by omega) hc' s0]
      unfold tkt
      by_cases y : s0 ≠ 0 ∨ (B.testBit b = true ∧ K (12 * a + b) = 1)
      · rw [if_pos y, if_pos (by rcases y with y | y; exact Or.inl (hs.mp y); exact Or.inr y)]
      · rw [if_neg y, if_neg (fun v => y (by rcases v with v | v; exact Or.inl (hs.mpr v); exact Or.inr v))]
    have e66 : ¬ (b < a ∧ A.testBit b = true ∧ K (12 * a + b) = 0) → fX2_costOfTaking_66 K5' (fX2_costOfTaking_17 K5' N) 2 A B c' a b h = fX2_costOfTaking_17 K5' N 2 A B (c' + tkt X K A B a b) a ((b + 1 : Nat) : Int) h := by
      intro z
      rw [fX2_costOfTaking_66]
      exact e67 0 ⟨fun w => absurd rfl w, fun w => absurd w z⟩
    rw [fX2_costOfTaking_17, gI 0 S.1 rfl, ob, if_neg (by omega), has_ok h (by omega) (by omega), ob, if_pos hAa, if_neg one0]
    by_cases z : a ≤ b
    · rw [if_pos (by omega)]
      exact e66 (fun v => by omega)
    · rw [if_neg (by omega)]
      show ((fX0_has A b h).bind fun _ => _) = _
      rw [has_ok h (by omega) (by omega), ob]
      by_cases y : A.testBit b = true
      · rw [if_pos y, if_neg one0]
        show ((cob h 6 2).bind fun _ => _) = _
        rw [co S.1, ob]
        show ((fX7_likeOf 2 a b h).bind fun _ => _) = _
        rw [likeOf_ok S ha (by omega), ob]
        by_cases w : K (12 * a + b) = 0
        · rw [if_pos w]
          exact e67 1 ⟨fun _ => ⟨by omega, y, w⟩, fun _ => by decide⟩
        · rw [if_neg w]
          exact e66 (fun v => w v.2.2)
      · rw [if_neg y, if_pos rfl]
        exact e66 (fun v => y v.2.1)
  · intro N
    show fX2_costOfTaking_17 K5' (N + 1) 2 A B (c + sumN n (tkt X K A B a)) a n h = _
    rw [fX2_costOfTaking_17, gI 0 S.1 rfl, ob, if_pos (by omega)]
def tks (n : Nat) (X K : Nat → Int) (A B : Nat) : Int := sumN n (fun a => if A.testBit a then sumN n (tkt X K A B a) else 0)
theorem tkt_bd (hX : Xok X K) {A B a : Nat} (ha : a < 12) (hn : n ≤ 12) : 0 ≤ sumN n (tkt X K A B a) ∧ sumN n (tkt X K A B a) ≤ 12000 := by
  have h0 : ∀ b, b < n → 0 ≤ tkt X K A B a b ∧ tkt X K A B a b ≤ 1000 := fun b hb => by
    have := (hX (12 * a + b) (by omega)).1
    unfold tkt; split <;> omega
  have h1 := sumN_nonneg (n := n) (F := tkt X K A B a) (fun b hb => (h0 b hb).1)
  have h2 := sumN_le (n := n) (F := tkt X K A B a) (c := 1000) (fun b hb => (h0 b hb).2)
  omega
theorem costOfTaking_ok (S : isSc h 2 n P W X K k f) (hn : n ≤ 12) (hX : Xok X K) {A B : Nat} (hA : A < 4096) (hB : B < 4096) : fX2_costOfTaking 2 A B h = some (tks n X K A B, h) := by
  unfold fX2_costOfTaking
  refine lpsum (fun N a c => fX2_costOfTaking_5 N 2 A B c a h) (fun a => if A.testBit a then sumN n (tkt X K A B a) else 0) n 0 0 12000 _ (by omega) (Nat.zero_le _) (fun i hi => by omega) (fun a ha => ?_) ?_ ?_
  · have := tkt_bd (n := n) hX (A := A) (B := B) (a := a) (by omega) hn
    show -12000 ≤ (if A.testBit a then sumN n (tkt X K A B a) else 0) ∧ (if A.testBit a then sumN n (tkt X K A B a) else 0) ≤ 12000
    split <;> omega
  · intro N a c _ ha h2 h3
    show fX2_costOfTaking_5 (N + 1) 2 A B c a h = fX2_costOfTaking_5 N 2 A B (c + if A.testBit a then sumN n (tkt X K A B a) else 0) ((a + 1 : Nat) : Int) h
    rw [fX2_costOfTaking_5, gI 0 S.1 rfl, ob, if_neg (by omega)]
    by_cases y : A.testBit a = true
    · rw [tk17 S hn hX hA hB (by omega) y (by omega), if_pos y, fX2_costOfTaking_129, c32_n (by omega) (by omega), ob]; rfl
    · rw [FU1, fX2_costOfTaking_17, gI 0 S.1 rfl, ob, if_neg (by omega), has_ok h (by omega) (by omega), ob, if_neg y, if_pos rfl, if_neg y]
      show fX2_costOfTaking_129 (fX2_costOfTaking_5 N) 2 A B c a h = _
      rw [fX2_costOfTaking_129, c32_n (by omega) (by omega), ob, Int.add_zero]; rfl
  · intro N
    show fX2_costOfTaking_5 (N + 1) 2 A B (0 + sumN n _) n h = _
    rw [fX2_costOfTaking_5, gI 0 S.1 rfl, ob, if_pos (by omega), fX2_costOfTaking_135, Int.zero_add]; rfl
end
