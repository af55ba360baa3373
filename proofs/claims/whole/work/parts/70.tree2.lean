theorem c_joinLow {h : Hp} {kd n L M : Nat} {l0 : Int} {W O T H B nm nm' : Nat → Int} {p q : Nat} (hn : n ≤ 12) (hS : Sym n W) (hL : L < 12) (hkd : kd ≤ 1) (o : h.2 14 = some (TO l0 n M)) (r1 : h.2 15 = some (arr 0 12 O)) (r2 : h.2 16 = some (arr 0 12 T)) (r4 : h.2 18 = some (arr 0 144 B)) (hM : reps n nm M) (hB : BM kd W n nm B) (eO : O L = p) (eT : T L = q) (hr : rp n nm p q) (hj : ∀ t, t < n → nm' t = if nm t = q then (p : Int) else nm t) :
    ∃ (h' : Hp) (M' : Nat) (B' : Nat → Int), fX10_joinLowest 14 L kd h = some h' ∧ h'.2 14 = some (TO l0 n M') ∧ h'.2 18 = some (arr 0 144 B') ∧ reps n nm' M' ∧ BM kd W n nm' B' ∧ Fr (fun k => k = 14 ∨ k = 18) h h' := by
  obtain ⟨y1, y2, y3, y4⟩ := hr
  have e2q : bShl 1 (q : Int) = ((2 ^ q : Nat) : Int) := bShl_1 q (by omega)
  have h2q : 2 ^ q ≤ 2 ^ 12 := Nat.pow_le_pow_right (by decide) (by omega)
  have hMl := hM.1
  have eM : bAnd (M : Int) (bXor (bShl 1 (q : Int)) (-1)) = ((ndf M (2 ^ q) : Nat) : Int) := by rw [e2q]; exact bNot_n (by omega)
  unfold fX10_joinLowest
  rw [gR 2 o rfl, ob, ald_of L r1 rfl hL, ob, gR 3 o rfl, ob, ald_of L r2 rfl hL, ob, gI 6 o rfl, ob, eO, eT, eM, pV (fs' := [vi l0, vi n, vr 15, vr 16, vr 17, vr 18, vi ((ndf M (2 ^ q) : Nat) : Int)]) 6 o (by simp) rfl, ob]
  have hM' : reps n nm' (ndf M (2 ^ q)) := by
    refine ⟨Nat.lt_of_le_of_lt (ndf_le (by omega)) hM.1, fun t ht => ?_⟩
    rw [ndf_bit (by omega) (by omega), Nat.testBit_two_pow]
    have hm := hM.2 t ht
    by_cases tq : q = t
    · subst tq
      have : nm' q = p := by rw [hj q y2, if_pos y4]
      simp only [decide_true, Bool.not_true, Bool.and_false]
      constructor
      · intro z; exact absurd z (by decide)
      · intro z; omega
    · rw [show decide (q = t) = false from by simp [tq]]
      simp only [Bool.not_false, Bool.and_true]
      rw [hm]
      constructor
      · rintro ⟨z1, z2⟩
        refine ⟨z1, ?_⟩
        rw [hj t z1, z2, if_neg (by omega)]
      · rintro ⟨z1, z2⟩
        refine ⟨z1, ?_⟩
        rw [hj t z1] at z2
        by_cases y : nm t = q
        · rw [if_pos y] at z2
          have : t = p := by omega
          subst this; exact y3
        · rw [if_neg y] at z2; exact z2
  have L2 : ∃ (h' : Hp) (B' : Nat → Int), fX10_joinLowest_33 FU 14 kd p q 0 (hput h 14 (TO l0 n (ndf M (2 ^ q) : Nat))) = some h' ∧ h'.2 14 = some (TO l0 n (ndf M (2 ^ q) : Nat)) ∧ h'.2 18 = some (arr 0 144 B') ∧ Fr (fun k => k = 14 ∨ k = 18) h h' ∧ (∀ u v, u < 12 → v < 12 → u ≠ p → v ≠ p → B' (12 * u + v) = B (12 * u + v)) ∧ ∀ v, v < n → v ≠ p → v ≠ q → B' (12 * p + v) = mm kd (B (12 * p + v)) (B (12 * q + v)) ∧ B' (12 * v + p) = mm kd (B (12 * p + v)) (B (12 * q + v)) := by
    refine lp (fun N c (g : Hp) => fX10_joinLowest_33 N 14 kd p q c g) (fun c g => ∃ B' : Nat → Int, g.2 14 = some (TO l0 n (ndf M (2 ^ q) : Nat)) ∧ g.2 18 = some (arr 0 144 B') ∧ Fr (fun k => k = 14 ∨ k = 18) h g ∧ (∀ u v, u < 12 → v < 12 → u ≠ p → v ≠ p → B' (12 * u + v) = B (12 * u + v)) ∧ (∀ v, v < c → v ≠ p → v ≠ q → B' (12 * p + v) = mm kd (B (12 * p + v)) (B (12 * q + v)) ∧ B' (12 * v + p) = mm kd (B (12 * p + v)) (B (12 * q + v))) ∧ ∀ v, c ≤ v → v < 12 → v ≠ p → B' (12 * p + v) = B (12 * p + v)) n (fun r => ∃ (h' : Hp) (B' : Nat → Int), r = some h' ∧ h'.2 14 = some (TO l0 n (ndf M (2 ^ q) : Nat)) ∧ h'.2 18 = some (arr 0 144 B') ∧ Fr (fun k => k = 14 ∨ k = 18) h h' ∧ (∀ u v, u < 12 → v < 12 → u ≠ p → v ≠ p → B' (12 * u + v) = B (12 * u + v)) ∧ ∀ v, v < n → v ≠ p → v ≠ q → B' (12 * p + v) = mm kd (B (12 * p + v)) (B (12 * q + v)) ∧ B' (12 * v + p) = mm kd (B (12 * p + v)) (B (12 * q + v))) ?_ ?_ FU 0 _ (Nat.zero_le _) (FU_lt (by omega)) ⟨B, hput_eq, (hput_ne (by omega)).trans r4, Fr.rf.put (Or.inl rfl), fun _ _ _ _ _ _ => rfl, fun v hv => by omega, fun _ _ _ _ => rfl⟩
    · intro N c g hc ⟨B', b1, b2, b3, b4, b5, b6⟩
      have key : ∀ w : Int, (∃ g', (∃ B' : Nat → Int, g'.2 14 = some (TO l0 n (ndf M (2 ^ q) : Nat)) ∧ g'.2 18 = some (arr 0 144 B') ∧ Fr (fun k => k = 14 ∨ k = 18) h g' ∧ (∀ u v, u < 12 → v < 12 → u ≠ p → v ≠ p → B' (12 * u + v) = B (12 * u + v)) ∧ (∀ v, v < c + 1 → v ≠ p → v ≠ q → (v = c → w = mm kd (B (12 * p + v)) (B (12 * q + v))) → B' (12 * p + v) = mm kd (B (12 * p + v)) (B (12 * q + v)) ∧ B' (12 * v + p) = mm kd (B (12 * p + v)) (B (12 * q + v))) ∧ ∀ v, c + 1 ≤ v → v < 12 → v ≠ p → B' (12 * p + v) = B (12 * p + v)) ∧ fX10_joinLowest_92 (fX10_joinLowest_33 N) 14 kd p q c w g = fX10_joinLowest_33 N 14 kd p q ((c + 1 : Nat) : Int) g') := by
        intro w
        refine ⟨hput g 18 (arr 0 144 (ups (ups B' (12 * p + c) w) (12 * c + p) w)), ⟨ups (ups B' (12 * p + c) w) (12 * c + p) w, (hput_ne (by omega)).trans b1, hput_eq, b3.put (Or.inr rfl), fun u v hu hv hup hvp => ?_, fun v hv hvp hvq hw => ?_, fun v hv hv12 hvp => ?_⟩, ?_⟩
        · rw [ups_at, if_neg (by omega), ups_at, if_neg (by omega)]; exact b4 u v hu hv hup hvp
        · by_cases z : v = c
          · subst z
            have hw := hw rfl
            constructor
            · rw [ups_at, if_neg (by omega), ups_at, if_pos rfl]; exact hw
            · rw [ups_at, if_pos rfl]; exact hw
          · have := b5 v (by omega) hvp hvq
            constructor
            · rw [ups_at, if_neg (by omega), ups_at, if_neg (by omega)]; exact this.1
            · rw [ups_at, if_neg (by omega), ups_at, if_neg (by omega)]; exact this.2
        · rw [ups_at, if_neg (by omega), ups_at, if_neg (by omega)]; exact b6 v (by omega) hv12 hvp
        · rw [fX10_joinLowest_92, gR 5 b1 rfl, ob, ast_of (12 * p + c) b2 (by omega) (by omega), ob, gR 5 ((hput_ne (by omega)).trans b1) rfl, ob, ast_of (12 * c + p) hput_eq (by omega) (by omega), ob, hput_hput, c32_n (by omega) (by omega), ob]; rfl
      rw [fX10_joinLowest_33, gI 1 b1 rfl, ob, if_neg (by omega), gR 5 b1 rfl, ob, ald_of (12 * p + c) b2 (by omega) (by omega), ob, ob, ald_of (12 * q + c) b2 (by omega) (by omega), ob]
      have fin : ∀ w : Int, (c ≠ p → c ≠ q → w = mm kd (B (12 * p + c)) (B (12 * q + c))) → ∃ g', (∃ B' : Nat → Int, g'.2 14 = some (TO l0 n (ndf M (2 ^ q) : Nat)) ∧ g'.2 18 = some (arr 0 144 B') ∧ Fr (fun k => k = 14 ∨ k = 18) h g' ∧ (∀ u v, u < 12 → v < 12 → u ≠ p → v ≠ p → B' (12 * u + v) = B (12 * u + v)) ∧ (∀ v, v < c + 1 → v ≠ p → v ≠ q → B' (12 * p + v) = mm kd (B (12 * p + v)) (B (12 * q + v)) ∧ B' (12 * v + p) = mm kd (B (12 * p + v)) (B (12 * q + v))) ∧ ∀ v, c + 1 ≤ v → v < 12 → v ≠ p → B' (12 * p + v) = B (12 * p + v)) ∧ fX10_joinLowest_92 (fX10_joinLowest_33 N) 14 kd p q c w g = fX10_joinLowest_33 N 14 kd p q ((c + 1 : Nat) : Int) g' := by
        intro w hw
        obtain ⟨g', ⟨B2, c1, c2, c3, c4, c5, c6⟩, e⟩ := key w
        exact ⟨g', ⟨B2, c1, c2, c3, c4, fun v hv hvp hvq => c5 v hv hvp hvq (fun z => by subst z; exact hw hvp hvq), c6⟩, e⟩
      by_cases k0 : kd = 0
      · rw [if_pos (by omega)]
        refine fin _ (fun h1 h2 => ?_)
        rw [b6 c (Nat.le_refl _) (by omega) h1, b4 q c (by omega) (by omega) (by omega) h1]
        unfold mm; rw [if_pos k0]
      · rw [if_neg (by omega)]
        refine fin _ (fun h1 h2 => ?_)
        rw [b6 c (Nat.le_refl _) (by omega) h1, b4 q c (by omega) (by omega) (by omega) h1]
        unfold mm; rw [if_neg k0]
    · intro N g ⟨B', b1, b2, b3, b4, b5, b6⟩
      rw [fX10_joinLowest_33, gI 1 b1 rfl, ob, if_pos (by omega), fX10_joinLowest_128]
      exact ⟨g, B', rfl, b1, b2, b3, b4, b5⟩
  obtain ⟨h', B', e, c1, c2, c3, c4, c5⟩ := L2
  refine ⟨h', ndf M (2 ^ q), B', e, c1, c2, hM', ?_, c3⟩
  intro u v hu hv huv nu nv
  have repq : ∀ t : Nat, t < n → nm' t = t → t ≠ q ∧ nm t = t := by
    intro t ht z
    have hx := (hM'.2 t (by omega)).mpr ⟨ht, z⟩
    rw [ndf_bit (by omega) (by omega), Nat.testBit_two_pow] at hx
    simp only [Bool.and_eq_true, Bool.not_eq_true', decide_eq_false_iff_not] at hx
    exact ⟨fun w => hx.2 w.symm, ((hM.2 t (by omega)).mp hx.1).2⟩
  obtain ⟨u1, u2⟩ := repq u hu nu
  obtain ⟨v1, v2⟩ := repq v hv nv
  by_cases up : u = p
  · subst up
    rw [(c5 v hv (by omega) v1).1]
    exact HT.join (nm := nm) (by omega) (by omega) (by omega) hj (hB u v hu hv huv u2 v2) (hB q v y2 hv (by omega) y4 v2)
  · by_cases vp : v = p
    · subst vp
      rw [(c5 u hu up u1).2]
      exact HT.sym hS (HT.join (nm := nm) (by omega) (by omega) (by omega) hj (hB v u hv hu (by omega) v2 u2) (hB q u y2 hu (by omega) y4 u2))
    · rw [c4 u v (by omega) (by omega) up vp]
      exact HT.far (by omega) (by omega) (by omega) (by omega) hj (hB u v hu hv huv u2 v2)
