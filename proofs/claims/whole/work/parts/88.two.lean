def vl2 : Nat → (Nat → Int) → Int
  | 0, _ => 0
  | i + 1, x => 2 * vl2 i x + x i
theorem vl2_congr {n : Nat} {f g : Nat → Int} (e : Eqn n f g) : vl2 n f = vl2 n g := by
  induction n with
  | zero => rfl
  | succ n ih => simp only [vl2]; rw [ih (fun i hi => e i (by omega)), e n (by omega)]
theorem vl2_lt {n : Nat} {f g : Nat → Int} (hf : ∀ i, i < n → f i = 0 ∨ f i = 1) (hg : ∀ i, i < n → g i = 0 ∨ g i = 1) (h : ahead n f g) : vl2 n f < vl2 n g := by
  induction n with
  | zero => obtain ⟨i, hi, -⟩ := h; omega
  | succ n ih =>
    obtain ⟨i, hi, a, b⟩ := h
    have f1 := hf n (by omega); have g1 := hg n (by omega)
    simp only [vl2]
    by_cases z : i = n
    · subst z
      have := vl2_congr (n := i) b
      omega
    · have := ih (fun i hi => hf i (by omega)) (fun i hi => hg i (by omega)) ⟨i, by omega, a, b⟩
      omega
theorem tricho (n : Nat) (f g : Nat → Int) : Eqn n f g ∨ ahead n f g ∨ ahead n g f := by
  induction n with
  | zero => exact Or.inl (fun i hi => by omega)
  | succ n ih =>
    rcases ih with z | ⟨i, hi, a, b⟩ | ⟨i, hi, a, b⟩
    · by_cases h1 : f n = g n
      · exact Or.inl (fun i hi => by
          by_cases w : i = n
          · rw [w]; exact h1
          · exact z i (by omega))
      · by_cases h2 : f n < g n
        · exact Or.inr (Or.inl ⟨n, by omega, h2, z⟩)
        · exact Or.inr (Or.inr ⟨n, by omega, by omega, fun j hj => (z j hj).symm⟩)
    · exact Or.inr (Or.inl ⟨i, by omega, a, b⟩)
    · exact Or.inr (Or.inr ⟨i, by omega, a, b⟩)
theorem vl2_iff {n : Nat} {f g : Nat → Int} (hf : ∀ i, i < n → f i = 0 ∨ f i = 1) (hg : ∀ i, i < n → g i = 0 ∨ g i = 1) : (vl2 n f < vl2 n g ↔ ahead n f g) ∧ (vl2 n f = vl2 n g ↔ Eqn n f g) := by
  have t := tricho n f g
  refine ⟨⟨fun h => ?_, vl2_lt hf hg⟩, ⟨fun h => ?_, vl2_congr⟩⟩
  · rcases t with z | z | z
    · have := vl2_congr z; omega
    · exact z
    · have := vl2_lt hg hf z; omega
  · rcases t with z | z | z
    · exact z
    · have := vl2_lt hf hg z; omega
    · have := vl2_lt hg hf z; omega
theorem vl2_bd {f : Nat → Int} (h0 : f 0 = 0) : ∀ n : Nat, (∀ i, i < n + 1 → f i = 0 ∨ f i = 1) → 0 ≤ vl2 (n + 1) f ∧ vl2 (n + 1) f < 2 ^ n := by
  intro n
  induction n with
  | zero => intro _; show 0 ≤ 2 * (0 : Int) + f 0 ∧ 2 * (0 : Int) + f 0 < 2 ^ 0; rw [h0]; decide
  | succ n ih =>
    intro hf
    have h1 := ih (fun i hi => hf i (by omega)); have h2 := hf (n + 1) (by omega)
    show 0 ≤ 2 * vl2 (n + 1) f + f (n + 1) ∧ 2 * vl2 (n + 1) f + f (n + 1) < 2 ^ (n + 1)
    rw [Int.pow_succ]
    omega
theorem Q2_bin {n : Nat} {x : Nat → Int} (h : Qn n 1 2 x) : (∀ i, i < n → x i = 0 ∨ x i = 1) := fun i hi => by
  have := (h.1 i hi).1; have := lt_mx (g := x) hi; have := h.2.2; omega
theorem bin_rgs {n : Nat} {f : Nat → Int} (hf : ∀ i, i < n → f i = 0 ∨ f i = 1) (h0 : f 0 = 0) (hn1 : 1 ≤ n) : Qn n 1 2 f := by
  have m1 : ∀ i, 1 ≤ i → 1 ≤ mx f i := fun i hi => by have := lt_mx (g := f) (n := i) (i := 0) (by omega); omega
  have m2 : ∀ i, i ≤ n → mx f i ≤ 2 := by
    intro i
    induction i with
    | zero => intro _; simp [mx]
    | succ i ih => intro hi; have := ih (by omega); have := hf i (by omega); simp only [mx]; omega
  refine ⟨fun i hi => ?_, m1 n hn1, m2 n (Nat.le_refl _)⟩
  have := hf i hi
  by_cases z : i = 0
  · subst z; rw [h0]; exact ⟨Int.le_refl _, mx_nonneg _ _⟩
  · have := m1 i (by omega); omega
theorem bits_vl2 {n set : Nat} {F : Nat → Int} (hn1 : 1 ≤ n) (hs : set < 2 ^ (n - 1)) (h0 : F 0 = 0) (hF : ∀ t, 1 ≤ t → t < n → F t = if set.testBit (n - 1 - t) then 1 else 0) : vl2 n F = set := by
  have key : ∀ i, i + 1 ≤ n → vl2 (i + 1) F = ((set >>> (n - 1 - i) : Nat) : Int) := by
    intro i
    induction i with
    | zero =>
      intro _
      show 2 * (0 : Int) + F 0 = _
      rw [h0, Nat.shiftRight_eq_div_pow, Nat.sub_zero, Nat.div_eq_of_lt hs]; rfl
    | succ i ih =>
      intro hi
      show 2 * vl2 (i + 1) F + F (i + 1) = _
      rw [ih (by omega), hF (i + 1) (by omega) (by omega)]
      obtain ⟨m, hm⟩ : ∃ m, n - 1 - (i + 1) = m := ⟨_, rfl⟩
      have hm2 : n - 1 - i = m + 1 := by omega
      rw [hm, hm2]
      have e1 : set >>> (m + 1) = (set >>> m) / 2 := by rw [Nat.shiftRight_succ]
      have e2 : set.testBit m = decide ((set >>> m) % 2 = 1) := by rw [Nat.testBit_eq_decide_div_mod_eq, Nat.shiftRight_eq_div_pow]
      rw [e1, e2]
      by_cases z : (set >>> m) % 2 = 1
      · rw [if_pos (by simp [z])]; omega
      · rw [if_neg (by simp [z])]; omega
  obtain ⟨m, rfl⟩ : ∃ m, n = m + 1 := ⟨n - 1, by omega⟩
  rw [key m (Nat.le_refl _)]
  simp
section
variable {h : Hp} {s : Scn} {hist : List Scn} {x : Aux} {flt : Int}
theorem l2w_t {v : Int} (h : 0 ≤ v ∧ v ≤ 10000) : l2w v = v := by
  rw [l2w_b, bm_def]; split <;> omega
theorem GSc.c2 (G : GSc s) {p : Nat → Int} (hp : RGS (sn s) p) : 0 ≤ cst (sn s) (sW s) (sX s) (sK s) 2 p ∧ cst (sn s) (sW s) (sX s) (sK s) 2 p ≤ 10000 := by
  rw [← PW_end G.2.1 G.wok (G.sym (fun _ _ => rfl)) hp]
  exact PW_bd G.wok G.2.1 p
theorem r_two (R : RI h s hist x flt) (G : GSc s) {U : Nat → Int} (u : h.2 79 = some (arr 0 144 U)) (eU : Eqn 144 U (sW s)) : ∃ (h' : Hp) (L : Int) (b : Nat → Int), fX12_two_17 FU 62 (-1) 0 h = fX12_two_134 62 L h' ∧ h'.2 77 = some (arr 0 12 b) ∧ BSt (sn s) 1 2 (fun y => cst (sn s) (sW s) (sX s) (sK s) 2 y) (-1) (fun _ => True) L b ∧ RI h' s hist x flt ∧ Fr (fun k => k = 76 ∨ k = 77) h h' := by
  have hn := G.2.1
  have hn1 := G.1
  obtain ⟨r1, r2, r3, r4, r5, s1, s2, s3, s4, s5⟩ := R.scr
  have h2p : 2 ^ (sn s - 1) ≤ 2 ^ 11 := Nat.pow_le_pow_right (by decide) (by omega)
  have e2n : bShl 1 ((sn s : Int) - 1) = ((2 ^ (sn s - 1) : Nat) : Int) := by
    rw [show (sn s : Int) - 1 = ((sn s - 1 : Nat) : Int) by omega, bShl_1 _ (by omega)]
  have hC : ∀ u v, Eqn (sn s) u v → (fun y => cst (sn s) (sW s) (sX s) (sK s) 2 y) u = (fun y => cst (sn s) (sW s) (sX s) (sK s) 2 y) v := fun u v e => cst_congr hn (fun _ _ => rfl) (fun _ _ => rfl) (fun _ _ => rfl) e 2
  refine lp (fun N set (z : Int × Hp) => fX12_two_17 N 62 z.1 set z.2) (fun set z => ∃ F b, z.2.2 76 = some (arr 0 12 F) ∧ z.2.2 77 = some (arr 0 12 b) ∧ BSt (sn s) 1 2 (fun y => cst (sn s) (sW s) (sX s) (sK s) 2 y) (-1) (fun y => vl2 (sn s) y < (set : Int)) z.1 b ∧ RI z.2 s hist x flt ∧ Fr (fun k => k = 76 ∨ k = 77) h z.2) (2 ^ (sn s - 1)) (fun r => ∃ (h' : Hp) (L : Int) (b : Nat → Int), r = fX12_two_134 62 L h' ∧ h'.2 77 = some (arr 0 12 b) ∧ BSt (sn s) 1 2 (fun y => cst (sn s) (sW s) (sX s) (sK s) 2 y) (-1) (fun _ => True) L b ∧ RI h' s hist x flt ∧ Fr (fun k => k = 76 ∨ k = 77) h h') ?_ ?_ FU 0 (-1, h) (Nat.zero_le _) (FU_lt (by omega)) ⟨r1, r2, s1, s2, Or.inl ⟨rfl, fun y hy z => ?_⟩, R, Fr.rf⟩
  · intro N set ⟨L, g⟩ hset ⟨F0, b, a76, a77, B, Rg, Fg⟩
    have a76 : g.2 76 = some (arr 0 12 F0) := a76
    have a77 : g.2 77 = some (arr 0 12 b) := a77
    have B : BSt (sn s) 1 2 (fun y => cst (sn s) (sW s) (sX s) (sK s) 2 y) (-1) (fun y => vl2 (sn s) y < (set : Int)) L b := B
    have Rg : RI g s hist x flt := Rg
    have Fg : Fr (fun k => k = 76 ∨ k = 77) h g := Fg
    obtain ⟨pa, fp, sm, o⟩ := Rg.obj
    -- the name of a set
    have L1 : ∃ g2 F, fX12_two_38 (fX12_two_17 N) FU 62 L set 1 (hput g 76 (arr 0 12 (ups F0 0 0))) = fX12_two_70 (fX12_two_17 N) 62 L set g2 ∧ g2.2 76 = some (arr 0 12 F) ∧ F 0 = 0 ∧ (∀ t, 1 ≤ t → t < sn s → F t = if set.testBit (sn s - 1 - t) then 1 else 0) ∧ RI g2 s hist x flt ∧ Fr (fun k => k = 76) g g2 := by
      refine lp (fun N' t (g' : Hp) => fX12_two_38 (fX12_two_17 N) N' 62 L set t g') (fun t g' => 1 ≤ t ∧ ∃ F, g'.2 76 = some (arr 0 12 F) ∧ F 0 = 0 ∧ (∀ j, 1 ≤ j → j < t → F j = if set.testBit (sn s - 1 - j) then 1 else 0) ∧ RI g' s hist x flt ∧ Fr (fun k => k = 76) g g') (sn s) (fun r => ∃ g2 F, r = fX12_two_70 (fX12_two_17 N) 62 L set g2 ∧ g2.2 76 = some (arr 0 12 F) ∧ F 0 = 0 ∧ (∀ t, 1 ≤ t → t < sn s → F t = if set.testBit (sn s - 1 - t) then 1 else 0) ∧ RI g2 s hist x flt ∧ Fr (fun k => k = 76) g g2) ?_ ?_ FU 1 _ hn1 (FU_lt (by omega)) ⟨Nat.le_refl _, ups F0 0 0, hput_eq, by simp [ups_at], fun j h1 h2 => by omega, Rg.pu (by omega) _, Fr.rf.put rfl⟩
      · intro N' t g' ht ⟨ht1, F, q1, q2, q3, q4, q5⟩
        obtain ⟨pa', fp', sm', o'⟩ := q4.obj
        rw [fX12_two_38, q4.nb, if_neg (by show ¬ (sn s : Int) ≤ t; omega)]
        simp only []
        rw [gR 20 o' rfl, ob, q4.nb]
        simp only []
        rw [show (sn s : Int) - 1 - t = ((sn s - 1 - t : Nat) : Int) by omega, bit_has (by omega) (by omega), ast_of t q1 rfl (by omega), ob, c32_n (by omega) (by omega), ob]
        refine ⟨_, ⟨by omega, _, hput_eq, ?_, fun j h1 h2 => ?_, q4.pu (by omega) _, q5.put rfl⟩, rfl⟩
        · rw [ups_at, if_neg (by omega)]; exact q2
        · rw [ups_at]
          by_cases w : j = t
          · rw [if_pos w, w]
          · rw [if_neg w]; exact q3 j h1 (by omega)
      · intro N' g' ⟨ht1, F, q1, q2, q3, q4, q5⟩
        rw [fX12_two_38, q4.nb, if_pos (by show (sn s : Int) ≤ sn s; omega)]
        exact ⟨g', F, rfl, q1, q2, q3, q4, q5⟩
    obtain ⟨g2, F, e2, m2, f0, fb, R2, Fr2⟩ := L1
    have hbin : ∀ i, i < sn s → F i = 0 ∨ F i = 1 := fun i hi => by
      by_cases z : i = 0
      · rw [z]; exact Or.inl f0
      · rw [fb i (by omega) hi]; split
        · exact Or.inr rfl
        · exact Or.inl rfl
    have hq := bin_rgs hbin f0 hn1
    have hv := bits_vl2 hn1 hset f0 fb
    have cF := G.c2 hq.1
    obtain ⟨ad1, ad2⟩ := B.add (A' := fun y => vl2 (sn s) y < ((set + 1 : Nat) : Int)) hC hq (fun y hy => by
      have := vl2_iff (Q2_bin hy) hbin
      rw [← this.2, hv]
      constructor
      · intro z
        have z : vl2 (sn s) y < ((set + 1 : Nat) : Int) := z
        by_cases w : vl2 (sn s) y < (set : Int)
        · exact Or.inl w
        · exact Or.inr (by omega)
      · rintro (z | z)
        · have z : vl2 (sn s) y < (set : Int) := z
          show vl2 (sn s) y < ((set + 1 : Nat) : Int); omega
        · show vl2 (sn s) y < ((set + 1 : Nat) : Int); omega) (fun y hy z => (vl2_iff (Q2_bin hy) hbin).1.mp (by rw [hv]; exact z)) (by show cst (sn s) (sW s) (sX s) (sK s) 2 F ≠ -1; omega)
    obtain ⟨pa2, fp2, sm2, o2⟩ := R2.obj
    have u2 : g2.2 79 = some (arr 0 144 U) := (Fr2.2 79 (by omega)).trans ((Fg.2 79 (by omega)).trans u)
    have b2 : g2.2 77 = some (arr 0 12 b) := (Fr2.2 77 (by omega)).trans a77
    have FA : Fr (fun k => k = 76 ∨ k = 77) h g2 := Fg.tr (Fr2.mono (fun k hk => Or.inl hk))
    have take : (L = -1 ∨ cst (sn s) (sW s) (sX s) (sK s) 2 F < L) → ∃ s' : Int × Hp, (∃ F b, s'.2.2 76 = some (arr 0 12 F) ∧ s'.2.2 77 = some (arr 0 12 b) ∧ BSt (sn s) 1 2 (fun y => cst (sn s) (sW s) (sX s) (sK s) 2 y) (-1) (fun y => vl2 (sn s) y < ((set + 1 : Nat) : Int)) s'.1 b ∧ RI s'.2 s hist x flt ∧ Fr (fun k => k = 76 ∨ k = 77) h s'.2) ∧ fX12_two_94 (fX12_two_17 N) 62 set (cst (sn s) (sW s) (sX s) (sK s) 2 F) g2 = fX12_two_17 N 62 s'.1 ((set + 1 : Nat) : Int) s'.2 := by
      intro hlt
      have Lc : ∃ g3 b3, fX12_two_94 (fX12_two_17 N) 62 set (cst (sn s) (sW s) (sX s) (sK s) 2 F) g2 = fX12_two_128 (fX12_two_17 N) 62 (cst (sn s) (sW s) (sX s) (sK s) 2 F) set g3 ∧ g3.2 77 = some (arr 0 12 b3) ∧ Eqn (sn s) b3 F ∧ RI g3 s hist x flt ∧ Fr (fun k => k = 77) g2 g3 := by
        unfold fX12_two_94
        refine lp (fun N' i (g' : Hp) => fX12_two_99 (fX12_two_17 N) N' 62 (cst (sn s) (sW s) (sX s) (sK s) 2 F) set i g') (fun i g' => ∃ b, g'.2 77 = some (arr 0 12 b) ∧ Eqn i b F ∧ RI g' s hist x flt ∧ Fr (fun k => k = 77) g2 g') (sn s) (fun r => ∃ g3 b3, r = fX12_two_128 (fX12_two_17 N) 62 (cst (sn s) (sW s) (sX s) (sK s) 2 F) set g3 ∧ g3.2 77 = some (arr 0 12 b3) ∧ Eqn (sn s) b3 F ∧ RI g3 s hist x flt ∧ Fr (fun k => k = 77) g2 g3) ?_ ?_ FU 0 g2 (Nat.zero_le _) (FU_lt (by omega)) ⟨b, b2, fun j hj => by omega, R2, Fr.rf⟩
        · intro N' i g' hi ⟨b, a1, a2, a3, a5⟩
          obtain ⟨pa', fp', sm', o'⟩ := a3.obj
          rw [fX12_two_99, a3.nb, if_neg (by show ¬ (sn s : Int) ≤ i; omega)]
          simp only []
          rw [gR 21 o' rfl, ob, gR 20 o' rfl, ob, ald_of i ((a5.2 76 (by omega)).trans m2) rfl (by omega), ob, ast_of i a1 rfl (by omega), ob, c32_n (by omega) (by omega), ob]
          refine ⟨_, ⟨_, hput_eq, fun j hj => ?_, a3.pu (by omega) _, a5.put rfl⟩, rfl⟩
          rw [ups_at]
          by_cases z : j = i
          · rw [if_pos z, z]
          · rw [if_neg z]; exact a2 j (by omega)
        · intro N' g' ⟨b, a1, a2, a3, a5⟩
          rw [fX12_two_99, a3.nb, if_pos (by show (sn s : Int) ≤ sn s; omega)]
          exact ⟨g', b, rfl, a1, a2, a3, a5⟩
      obtain ⟨g3, b3, e3, q1, q2, q3, q4⟩ := Lc
      refine ⟨(cst (sn s) (sW s) (sX s) (sK s) 2 F, g3), ⟨F, b3, (q4.2 76 (by omega)).trans m2, q1, ad1 hlt b3 q2, q3, FA.tr (q4.mono (fun k hk => Or.inr hk))⟩, ?_⟩
      rw [e3, fX12_two_128, c32_n (by omega) (by omega), ob]; rfl
    show ∃ s', _ ∧ fX12_two_17 (N + 1) 62 L set g = _
    rw [fX12_two_17, Rg.nb]
    simp only []
    rw [e2n, if_neg (by omega), gR 20 o rfl, ob, ast_of (i := 0) 0 a76 rfl (by omega), ob, e2, fX12_two_70, gR 20 o2 rfl, ob, R2.cb, ob, r_cost R2 G m2 hn u2 eU hq.1 ⟨by omega, by omega⟩, ob]
    simp only []
    rw [l2w_t cF]
    by_cases c1 : L = -1
    · rw [if_pos c1]; exact take (Or.inl c1)
    · rw [if_neg c1]
      by_cases c2 : cst (sn s) (sW s) (sX s) (sK s) 2 F < L
      · rw [if_pos c2]; exact take (Or.inr c2)
      · rw [if_neg c2, fX12_two_128, c32_n (by omega) (by omega), ob]
        exact ⟨(L, g2), ⟨F, b, m2, b2, ad2 c1 (by show L ≤ cst (sn s) (sW s) (sX s) (sK s) 2 F; omega), R2, FA⟩, rfl⟩
  · intro N ⟨L, g⟩ ⟨F0, b, a76, a77, B, Rg, Fg⟩
    have Rg : RI g s hist x flt := Rg
    show ∃ (h' : Hp) (L' : Int) (b' : Nat → Int), fX12_two_17 (N + 1) 62 L ((2 ^ (sn s - 1) : Nat) : Int) g = _ ∧ _
    rw [fX12_two_17, Rg.nb]
    simp only []
    rw [e2n, if_pos (by omega)]
    refine ⟨g, L, b, rfl, a77, BSt.mono B (fun y hy => ⟨fun _ => trivial, fun _ => ?_⟩), Rg, Fg⟩
    have hb := Q2_bin hy
    obtain ⟨m, hm⟩ : ∃ m, sn s = m + 1 := ⟨sn s - 1, by omega⟩
    have := (vl2_bd (f := y) (hy.1.zero (by omega)) m (fun i hi => hb i (by omega))).2
    show vl2 (sn s) y < ((2 ^ (sn s - 1) : Nat) : Int)
    rw [hm, show m + 1 - 1 = m by omega, Int.natCast_pow]
    exact this
  · have z : vl2 (sn s) y < ((0 : Nat) : Int) := z
    have hb := Q2_bin hy
    obtain ⟨m, hm⟩ : ∃ m, sn s = m + 1 := ⟨sn s - 1, by omega⟩
    have := (vl2_bd (f := y) (hy.1.zero (by omega)) m (fun i hi => hb i (by omega))).1
    rw [hm] at z; omega
end
theorem both_two {h : Hp} (B : Both h) : ∃ r h1 h2, fX11_two 1 h = some (r, h1) ∧ fX12_two 62 h1 = some (r, h2) ∧ Both h2 := by
  obtain ⟨s, hist, x, flt, G, C, R⟩ := B
  have hn := G.1.2.1
  have hn1 := G.1.1
  have hq : ∃ y, Qn (sn s) 1 2 y := by
    obtain ⟨q1, q2⟩ := Qn_ex (n := sn s) (k := 1) (by omega) hn1
    exact ⟨_, q1, by rw [q2]; decide, by rw [q2]; decide⟩
  obtain ⟨h1, e1, C1, F1⟩ := c_change C hn
  obtain ⟨h2, L, bb, e2, C2, B2, hr2, F2⟩ := c_run C1 G.1 (g := 2) (lo := 1) (hi := 2) (fun z => absurd rfl z) (by omega) (by omega) (by omega) (by omega) hq
  obtain ⟨h3, h4, e3, R3, F4, e4, R4, F5⟩ := change2 G R (F1.tr F2)
  obtain ⟨h5, U, e5, u5, q5, R5, Fr5⟩ := r_useWays R4
  obtain ⟨h6, L', b', e6, m6, B6, R6, Fr6⟩ := r_two R5 G.1 u5 q5
  obtain ⟨eL, eb, hqb⟩ := B2.uq hq B6
  obtain ⟨h7, e7, R7, Fr7⟩ := r_become R6 hn (hist12 G) (Or.inr rfl) m6 (fun i hi => (eb i hi).symm)
  obtain ⟨pa6, fp6, sm6, o6⟩ := R6.obj
  obtain ⟨⟨c, g', a', b0, r1, r2, r3, y1, -⟩, -⟩ := C1.2.2.2.2.2.2.2.1
  have hL : 0 ≤ L ∧ L ≤ 10000 := by
    rcases B2 with ⟨z1, z2⟩ | ⟨z0, z1, -, z3, -⟩
    · obtain ⟨y, hy⟩ := hq
      exact absurd trivial (z2 y hy)
    · rw [← z3]; exact G.1.c2 z1.1
  refine ⟨L, h2, h7, ?_, ?_, bo ⟨setf_good G.1 hr2, take20_good G.1 G.2.1, G.2.2⟩ C2 (F5.tr ((FM.of Fr5 (fun k hk => by omega)).tr ((FM.of Fr6 (fun k hk => by omega)).tr (FM.of Fr7 (fun k hk => by omega))))) R7⟩
  · unfold fX11_two
    rw [co C.1, ob, C.cr1, ob, e1, ob, gR 6 C1.1 rfl, ob, gR 0 C1.1 rfl, ob, co y1, ob, e2, ob, l2w_t hL]
  · unfold fX12_two
    rw [e3, ob, R3.cb, ob, e4, ob, R4.cb, ob, e5, ob, e6, fX12_two_134, gR 21 o6 rfl, ob, R6.cb, ob, e7, ob, eL]
