/-! the class's tree -/
def BM (kd : Nat) (W : Nat → Int) (n : Nat) (nm : Nat → Int) (B : Nat → Int) : Prop := ∀ p q : Nat, p < n → q < n → p ≠ q → nm p = p → nm q = q → HT kd W n nm p q (B (12 * p + q))
abbrev TO (L n hl : Int) : AC := obj 9 [vi L, vi n, vr 15, vr 16, vr 17, vr 18, vi hl]
def reps (n : Nat) (nm : Nat → Int) (M : Nat) : Prop := M < 4096 ∧ ∀ t : Nat, t < 12 → (M.testBit t = true ↔ t < n ∧ nm t = t)
/-- how far the search for the lowest pair has come -/
def FI (h : Hp) (kd L n : Nat) (W O T H nm : Nat → Int) (a b : Nat) (g : Hp) : Prop := ∃ O' T' H' : Nat → Int, g.2 15 = some (arr 0 12 O') ∧ g.2 16 = some (arr 0 12 T') ∧ g.2 17 = some (arr 0 12 H') ∧ (∀ i, i ≠ L → O' i = O i ∧ T' i = T i ∧ H' i = H i) ∧ Fr (fun k => 15 ≤ k ∧ k ≤ 17) h g ∧ ((non n nm a b ∧ H' L = 2147483647) ∨ ∃ p q : Nat, O' L = p ∧ T' L = q ∧ fnd kd W n nm a b p q (H' L))
theorem FI.mv {h g : Hp} {kd L n : Nat} {W O T H nm : Nat → Int} {a b a' b' : Nat} (hI : FI h kd L n W O T H nm a b g) (e : ∀ p q, rp n nm p q → (bef p q a b ↔ bef p q a' b')) : FI h kd L n W O T H nm a' b' g := by
  obtain ⟨O', T', H', a1, a2, a3, a4, a5, a6⟩ := hI
  refine ⟨O', T', H', a1, a2, a3, a4, a5, ?_⟩
  rcases a6 with ⟨z1, z2⟩ | ⟨p, q, z1, z2, z3⟩
  · exact Or.inl ⟨z1.mv e, z2⟩
  · exact Or.inr ⟨p, q, z1, z2, z3.mv e⟩
theorem c_find_in {h : Hp} {kd n L M : Nat} {l0 : Int} {W O T H B nm : Nat → Int} (hn : n ≤ 12) (hW : Wok W) (hL : L < 12) (o : h.2 14 = some (TO l0 n M)) (r4 : h.2 18 = some (arr 0 144 B)) (hM : reps n nm M) (hB : BM kd W n nm B) (Kk : Nat → Int → Int → Hp → Option Hp) (a : Nat) (ha : a < n) (g : Hp) (hg : FI h kd L n W O T H nm a (a + 1) g) :
    ∃ g2, fX10_findLowest_22 Kk FU 14 L a ((a + 1 : Nat) : Int) g = fX10_findLowest_104 Kk 14 L a g2 ∧ FI h kd L n W O T H nm (a + 1) (a + 2) g2 := by
  have fin : ∀ (b : Nat) (g2 : Hp), (b = n ∨ nm a ≠ a) → FI h kd L n W O T H nm a b g2 → FI h kd L n W O T H nm (a + 1) (a + 2) g2 := by
    intro b g2 hb hI
    refine hI.mv (fun p q z => ?_)
    obtain ⟨y1, y2, y3, y4⟩ := z
    unfold bef
    rcases hb with w | w
    · omega
    · have : p ≠ a := fun z => by subst z; exact w y3
      omega
  refine lpe (fun N b (g : Hp) => fX10_findLowest_22 Kk N 14 L a b g) (fun b g => a + 1 ≤ b ∧ FI h kd L n W O T H nm a b g) n (fun r => ∃ g2, r = fX10_findLowest_104 Kk 14 L a g2 ∧ FI h kd L n W O T H nm (a + 1) (a + 2) g2) ?_ ?_ FU (a + 1) g (by omega) (FU_lt (by omega)) ⟨Nat.le_refl _, hg⟩
  · intro N b g hb ⟨hab, hI⟩
    obtain ⟨O', T', H', a1, a2, a3, a4, a5, a6⟩ := id hI
    have o' : g.2 14 = some (TO l0 n M) := (a5.2 14 (by omega)).trans o
    have b4 : g.2 18 = some (arr 0 144 B) := (a5.2 18 (by omega)).trans r4
    rw [fX10_findLowest_22, gI 1 o' rfl, ob, if_neg (by omega), gI 6 o' rfl, ob, has_ok g (by have := hM.1; omega) (by omega), ob]
    by_cases ra : M.testBit a = true
    · have na := ((hM.2 a (by omega)).mp ra).2
      right
      rw [if_pos ra, if_neg one0]
      simp only []
      rw [gR 5 o' rfl, ob, ald_of (12 * a + b) b4 (by omega) (by omega), ob, gI 6 o' rfl, ob, has_ok g (by have := hM.1; omega) (by omega), ob]
      by_cases rb : M.testBit b = true
      · have nb := ((hM.2 b (by omega)).mp rb).2
        have hw := hB a b ha hb (by omega) na nb
        have hwb := hw.bd hn hW
        have hr : rp n nm a b := ⟨by omega, hb, na, nb⟩
        rw [if_pos rb, if_neg one0]
        simp only []
        rw [gR 4 o' rfl, ob, ald_of L a3 rfl hL, ob]
        have wr : fnd kd W n nm a (b + 1) a b (B (12 * a + b)) → ∃ g2, (a + 1 ≤ b + 1 ∧ FI h kd L n W O T H nm a (b + 1) g2) ∧ ((getR g 9 14 2).bind fun v15 => (ast g 0 v15 (L : Int) (a : Int)).bind fun h17 => (getR h17 9 14 3).bind fun v18 => (ast h17 0 v18 (L : Int) (b : Int)).bind fun h20 => (getR h20 9 14 4).bind fun v21 => (ast h20 0 v21 (L : Int) (B (12 * a + b))).bind fun h23 => fX10_findLowest_98 Kk (fX10_findLowest_22 Kk N) 14 L a b h23) = fX10_findLowest_22 Kk N 14 L a ((b + 1 : Nat) : Int) g2 := by
          intro hf
          refine ⟨hput (hput (hput g 15 (arr 0 12 (ups O' L a))) 16 (arr 0 12 (ups T' L b))) 17 (arr 0 12 (ups H' L (B (12 * a + b)))), ⟨by omega, ups O' L a, ups T' L b, ups H' L (B (12 * a + b)), (hput_ne (by omega)).trans ((hput_ne (by omega)).trans hput_eq), (hput_ne (by omega)).trans hput_eq, hput_eq, fun i hi => ?_, ((a5.put (by omega)).put (by omega)).put (by omega), Or.inr ⟨a, b, by simp [ups_at], by simp [ups_at], by simpa [ups_at] using hf⟩⟩, ?_⟩
          · rw [ups_at, ups_at, ups_at, if_neg hi, if_neg hi, if_neg hi]; exact a4 i hi
          · rw [gR 2 o' rfl, ob, ast_of L a1 rfl hL, ob, gR 3 ((hput_ne (by omega)).trans o') rfl, ob, ast_of L ((hput_ne (by omega)).trans a2) rfl hL, ob, gR 4 ((hput_ne (by omega)).trans ((hput_ne (by omega)).trans o')) rfl, ob, ast_of L ((hput_ne (by omega)).trans ((hput_ne (by omega)).trans a3)) rfl hL, ob, fX10_findLowest_98, c32_n (by omega) (by omega), ob]; rfl
        rcases a6 with ⟨z1, z2⟩ | ⟨p, q, z1, z2, z3⟩
        · rw [if_neg (by omega)]
          exact wr (z1.hit hr hw)
        · by_cases hlt : H' L ≤ B (12 * a + b)
          · rw [if_pos hlt, fX10_findLowest_98, c32_n (by omega) (by omega), ob]
            exact ⟨g, ⟨by omega, O', T', H', a1, a2, a3, a4, a5, Or.inr ⟨p, q, z1, z2, z3.pass hw hlt⟩⟩, rfl⟩
          · rw [if_neg hlt]
            exact wr (z3.hit hr hw (by omega))
      · rw [if_neg rb, if_pos rfl]
        rw [fX10_findLowest_98, c32_n (by omega) (by omega), ob]
        refine ⟨g, ⟨by omega, hI.mv (fun p q z => ?_)⟩, rfl⟩
        obtain ⟨y1, y2, y3, y4⟩ := z
        have : ¬ (p = a ∧ q = b) := fun z => by obtain ⟨rfl, rfl⟩ := z; exact rb ((hM.2 q (by omega)).mpr ⟨hb, y4⟩)
        unfold bef; omega
    · left
      rw [if_neg ra, if_pos rfl]
      exact ⟨g, rfl, fin b g (Or.inr (fun z => ra ((hM.2 a (by omega)).mpr ⟨ha, z⟩))) hI⟩
  · intro N g ⟨hab, hI⟩
    obtain ⟨O', T', H', a1, a2, a3, a4, a5, a6⟩ := id hI
    have o' : g.2 14 = some (TO l0 n M) := (a5.2 14 (by omega)).trans o
    rw [fX10_findLowest_22, gI 1 o' rfl, ob, if_pos (by omega)]
    exact ⟨g, rfl, fin n g (Or.inl rfl) hI⟩
theorem c_find {h : Hp} {kd n L M : Nat} {l0 : Int} {W O T H B nm : Nat → Int} (hn : n ≤ 12) (hW : Wok W) (hL : L < 12) (o : h.2 14 = some (TO l0 n M)) (r1 : h.2 15 = some (arr 0 12 O)) (r2 : h.2 16 = some (arr 0 12 T)) (r3 : h.2 17 = some (arr 0 12 H)) (r4 : h.2 18 = some (arr 0 144 B)) (hM : reps n nm M) (hB : BM kd W n nm B) (hp : ∃ q, rp n nm 0 q) :
    ∃ (h' : Hp) (O' T' H' : Nat → Int) (p q : Nat), fX10_findLowest 14 L h = some h' ∧ h'.2 15 = some (arr 0 12 O') ∧ h'.2 16 = some (arr 0 12 T') ∧ h'.2 17 = some (arr 0 12 H') ∧ (∀ i, i ≠ L → O' i = O i ∧ T' i = T i ∧ H' i = H i) ∧ O' L = (p : Int) ∧ T' L = (q : Int) ∧ isLow kd W n nm p q (H' L) ∧ Fr (fun k => 15 ≤ k ∧ k ≤ 17) h h' := by
  unfold fX10_findLowest
  rw [gR 4 o rfl, ob, ast_of L r3 rfl hL, ob]
  refine lp (fun N a (g : Hp) => fX10_findLowest_10 N 14 L a g) (fun a g => FI h kd L n W O T H nm a (a + 1) g) n (fun r => ∃ (h' : Hp) (O' T' H' : Nat → Int) (p q : Nat), r = some h' ∧ h'.2 15 = some (arr 0 12 O') ∧ h'.2 16 = some (arr 0 12 T') ∧ h'.2 17 = some (arr 0 12 H') ∧ (∀ i, i ≠ L → O' i = O i ∧ T' i = T i ∧ H' i = H i) ∧ O' L = (p : Int) ∧ T' L = (q : Int) ∧ isLow kd W n nm p q (H' L) ∧ Fr (fun k => 15 ≤ k ∧ k ≤ 17) h h') ?_ ?_ FU 0 _ (Nat.zero_le _) (FU_lt (by omega)) ⟨O, T, ups H L 2147483647, (hput_ne (by omega)).trans r1, (hput_ne (by omega)).trans r2, hput_eq, fun i hi => ⟨rfl, rfl, by rw [ups_at, if_neg hi]⟩, Fr.rf.put (by omega), Or.inl ⟨fun p q z y => by obtain ⟨y1, -⟩ := z; unfold bef at y; omega, by simp [ups_at]⟩⟩
  · intro N a g ha hI
    obtain ⟨O', T', H', a1, a2, a3, a4, a5, a6⟩ := id hI
    obtain ⟨g2, e2, I2⟩ := c_find_in hn hW hL o r4 hM hB (fX10_findLowest_10 N) a ha g hI
    refine ⟨g2, I2, ?_⟩
    simp only [fX10_findLowest_10]
    rw [gI 1 ((a5.2 14 (by omega)).trans o) rfl, ob, if_neg (by omega), c32_n (by omega) (by omega), ob]
    have e2' : fX10_findLowest_22 (fX10_findLowest_10 N) FU 14 L a ((a : Int) + 1) g = fX10_findLowest_104 (fX10_findLowest_10 N) 14 L a g2 := e2
    rw [e2']
    simp only [fX10_findLowest_104]
    rw [c32_n (by omega) (by omega), ob]; rfl
  · intro N g hI
    obtain ⟨O', T', H', a1, a2, a3, a4, a5, a6⟩ := id hI
    simp only [fX10_findLowest_10, fX10_findLowest_110]
    rw [gI 1 ((a5.2 14 (by omega)).trans o) rfl, ob, if_pos (by omega)]
    rcases a6 with ⟨z1, z2⟩ | ⟨p, q, z1, z2, z3⟩
    · obtain ⟨q, hq⟩ := hp
      exact absurd (show bef 0 q n (n + 1) by have := hq.1; have := hq.2.1; unfold bef; omega) (z1 0 q hq)
    · exact ⟨g, O', T', H', p, q, rfl, a1, a2, a3, a4, z1, z2, z3.low, a5⟩
