/-! better, the class's side: heaps weighed, the cost after a move -/
def wth (g a b : Int) : Int := if g = 2 then max a b else a + b
theorem with_ok (h : Hp) {g a b : Int} (ha : -100000000000000000 ≤ a ∧ a ≤ 100000000000000000) (hb : -100000000000000000 ≤ b ∧ b ≤ 100000000000000000) : fX0_with g a b h = some (wth g a b, h) := by
  unfold fX0_with wth
  simp only [fX0_with_16]
  by_cases g2 : g = 2
  · rw [if_pos g2, if_pos g2]
  · rw [if_neg g2, if_neg g2, c64_n (by omega) (by omega), ob]
theorem cfold_bd {g c0 : Int} {T : Nat → Int} (h0 : -1000000 ≤ c0 ∧ c0 ≤ 1000000) {k : Nat} (hT : ∀ u, u < k → -1000000000000000 ≤ T u ∧ T u ≤ 1000000000000000) : -(1000000 + k * 1000000000000000) ≤ cfold g c0 T k ∧ cfold g c0 T k ≤ 1000000 + k * 1000000000000000 := by
  induction k with
  | zero => simp only [cfold]; omega
  | succ k ih =>
    have h1 := ih (fun u hu => hT u (by omega)); have h2 := hT k (by omega)
    simp only [cfold]
    split <;> omega
theorem cfold_skip {g c0 : Int} {T : Nat → Int} {k : Nat} (h2 : g = 2 → c0 = 0) (hT : T k = 0) : cfold g c0 T (k + 1) = cfold g c0 T k := by
  simp only [cfold]
  rw [hT]
  by_cases z : g = 2
  · rw [if_pos z]
    have := h2 z
    subst z; subst this
    rw [cfold_2]
    exact max_0 (maxN_nonneg _ _)
  · rw [if_neg z, Int.add_zero]
theorem cf_two {g c0 : Int} {T : Nat → Int} {k a v : Nat} (ha : a < k) (hv : v ≤ k) (hav : a ≠ v) (hk : v ≠ k → T k = 0) (h2 : g = 2 → c0 = 0 ∧ ∀ u, 0 ≤ T u) : wth g (wth g (cfold g c0 (fun u => if u = a ∨ u = v then 0 else T u) k) (T a)) (T v) = cfold g c0 T (k + 1) := by
  unfold wth
  by_cases z : g = 2
  · obtain ⟨hc, hT⟩ := h2 z
    subst z; subst hc
    rw [if_pos rfl, if_pos rfl, cfold_2, cfold_2]
    have l1 : T a ≤ maxN (k + 1) T := le_maxN (F := T) (by omega)
    have l2 : T v ≤ maxN (k + 1) T := le_maxN (F := T) (by omega)
    have l3 : maxN k (fun u => if u = a ∨ u = v then 0 else T u) ≤ maxN (k + 1) T := maxN_le (maxN_nonneg _ _) (fun u hu => by
      split
      · exact maxN_nonneg _ _
      · exact le_maxN (F := T) (by omega))
    have l4 : maxN (k + 1) T ≤ max (max (maxN k (fun u => if u = a ∨ u = v then 0 else T u)) (T a)) (T v) := by
      have l5 := hT v
      refine maxN_le (by omega) (fun u hu => ?_)
      by_cases w1 : u = a
      · subst w1; omega
      · by_cases w2 : u = v
        · subst w2; omega
        · by_cases w3 : u = k
          · subst w3
            rw [hk (fun y => w2 y.symm)]; omega
          · have l6 : (if u = a ∨ u = v then 0 else T u) ≤ maxN k (fun u => if u = a ∨ u = v then 0 else T u) := le_maxN (F := fun u => if u = a ∨ u = v then 0 else T u) (n := k) (i := u) (by omega)
            rw [if_neg (show ¬ (u = a ∨ u = v) by omega)] at l6
            omega
    omega
  · rw [if_neg z, if_neg z, cfold_s z, cfold_s z]
    have e1 : sumN (k + 1) T = sumN (k + 1) (fun u => if u = a then 0 else T u) + (T a - (if a = a then 0 else T a)) := sumN_one (n := k + 1) (j := a) (F := T) (G := fun u => if u = a then 0 else T u) (by omega) (fun i _ hi => by rw [if_neg hi])
    have e2 : sumN (k + 1) (fun u => if u = a then 0 else T u) = sumN (k + 1) (fun u => if u = a ∨ u = v then 0 else T u) + ((if v = a then 0 else T v) - (if v = a ∨ v = v then 0 else T v)) := sumN_one (n := k + 1) (j := v) (F := fun u => if u = a then 0 else T u) (G := fun u => if u = a ∨ u = v then 0 else T u) (by omega) (fun i _ hi => by
      by_cases w : i = a
      · rw [if_pos w, if_pos (Or.inl w)]
      · rw [if_neg w, if_neg (by omega)])
    rw [if_pos rfl] at e1
    rw [if_neg (fun y => hav y.symm), if_pos (Or.inr rfl)] at e2
    have e3 : sumN (k + 1) (fun u => if u = a ∨ u = v then 0 else T u) = sumN k (fun u => if u = a ∨ u = v then 0 else T u) + (if k = a ∨ k = v then 0 else T k) := rfl
    have e4 : (if k = a ∨ k = v then 0 else T k) = 0 := by
      by_cases w : k = a ∨ k = v
      · rw [if_pos w]
      · rw [if_neg w, hk (by omega)]
    omega
/-- what a cost begins with -/
def gd (n : Nat) (X K : Nat → Int) (g : Int) : Int := if g = 3 then grd n X K else 0
/-- the row of Moves' heaps is weighed for a parting -/
def WG (n : Nat) (W X K : Nat → Int) (g : Int) (f : Nat → Int) (h : Hp) : Prop := ∃ M Q, h.2 41 = some (obj 3 [vr 42, vr 43, vl (gd n X K g)]) ∧ h.2 42 = some (arr 0 12 M) ∧ h.2 43 = some (arr 1 12 Q) ∧ ∀ v : Nat, v < (mx f n).toNat → M v = ((msk (fun i => decide (f i = (v : Int))) n : Nat) : Int) ∧ Q v = hco n W X K g (pv f v)
section
variable {h : Hp} {n : Nat} {P W X K f : Nat → Int}
theorem weigh_ok (S : isSc h 2 n P W X K (mx f n) f) (hn1 : 1 ≤ n) (hn : n ≤ 12) (hW : Wok W) (hX : Xok X K) (hr : RGS n f) {g0 : Int} {r1 r2 : Nat → Int} (o : h.2 41 = some (obj 3 [vr 42, vr 43, vl g0])) (m1 : h.2 42 = some (arr 0 12 r1)) (m2 : h.2 43 = some (arr 1 12 r2)) (g : Int) : ∃ h', fX4_weighHeaps 41 2 g h = some h' ∧ WG n W X K g f h' ∧ Fr (fun k => 41 ≤ k ∧ k ≤ 43) h h' := by
  have hm := hr.mx_le; have hm0 := mx_nonneg f n
  unfold fX4_weighHeaps
  rw [ground_ok S hn1 hn hX g, ob]
  show ∃ h', ((putV h 3 41 2 (vl (gd n X K g))).bind fun h2 => fX4_weighHeaps_11 FU 41 2 g 0 h2) = some h' ∧ _
  rw [pV 2 o (by simp) rfl, ob]
  have S1 : ∀ h1 : Hp, Fr (fun k => 41 ≤ k ∧ k ≤ 43) h h1 → isSc h1 2 n P W X K (mx f n) f := fun h1 F1 => isSq.fr F1 S (fun j hj => by obtain ⟨z1, z2⟩ := hj; omega)
  refine lp (fun N v (z : Hp) => fX4_weighHeaps_11 N 41 2 g v z) (fun v z => ∃ M Q, z.2 41 = some (obj 3 [vr 42, vr 43, vl (gd n X K g)]) ∧ z.2 42 = some (arr 0 12 M) ∧ z.2 43 = some (arr 1 12 Q) ∧ (∀ u : Nat, u < v → M u = ((msk (fun i => decide (f i = (u : Int))) n : Nat) : Int) ∧ Q u = hco n W X K g (pv f u)) ∧ Fr (fun k => 41 ≤ k ∧ k ≤ 43) h z) (mx f n).toNat (fun r => ∃ h', r = some h' ∧ WG n W X K g f h' ∧ Fr (fun k => 41 ≤ k ∧ k ≤ 43) h h') ?_ ?_ FU 0 _ (Nat.zero_le _) (FU_lt (by omega)) ⟨r1, r2, hput_eq, (hput_ne (by omega)).trans m1, (hput_ne (by omega)).trans m2, fun u hu => by omega, Fr.rf.put (by omega)⟩
  · intro N v z hv ⟨M, Q, a1, a2, a3, a4, a5⟩
    have S2 := S1 z a5
    have P2 := S2.2.2.2.2.2
    have hM := msk_lt (fun j => decide (f j = (v : Int))) n
    have hM2 : 2 ^ n ≤ 2 ^ 12 := Nat.pow_le_pow_right (by decide) hn
    have a5' : Fr (fun k => 41 ≤ k ∧ k ≤ 43) h (hput z 42 (arr 0 12 (ups M v ((msk (fun i => decide (f i = (v : Int))) n : Nat) : Int)))) := a5.put (by omega)
    have S3 := S1 _ a5'
    have eT : hco n W X K g (msk (fun j => decide (f j = (v : Int))) n).testBit = hco n W X K g (pv f v) := hco_congr hn (fun _ _ => rfl) (fun _ _ => rfl) (fun _ _ => rfl) (fun j hj => by rw [msk_bit]; simp [hj, pv]) g
    show ∃ s', _ ∧ fX4_weighHeaps_11 (N + 1) 41 2 g v z = fX4_weighHeaps_11 N 41 2 g ((v + 1 : Nat) : Int) s'
    rw [fX4_weighHeaps_11, gR 5 S2.1 rfl, ob, gI 1 P2.1 rfl, ob, if_neg (by omega), gR 0 a1 rfl, ob, ob, co P2.1, ob, membersOf_ok hn P2, ob]
    show ∃ s', _ ∧ ((ast z 0 42 v ((msk (fun i => decide (f i = (v : Int))) n : Nat) : Int)).bind fun _ => _) = _
    rw [ast_of v a2 rfl (by omega), ob, gR 1 ((hput_ne (by omega)).trans a1) rfl, ob, gR 0 ((hput_ne (by omega)).trans a1) rfl, ob, ald_of v hput_eq rfl (by omega), ob, ups_at, if_pos rfl, ofHeap_ok S3 hn1 hn hW hX (by omega) g, ob, eT]
    show ∃ s', _ ∧ ((ast (hput z 42 (arr 0 12 (ups M v ((msk (fun i => decide (f i = (v : Int))) n : Nat) : Int)))) 1 43 v (hco n W X K g (pv f v))).bind fun _ => _) = _
    rw [ast_of v ((hput_ne (by omega)).trans a3) rfl (by omega), ob, c32_n (by omega) (by omega), ob]
    refine ⟨_, ⟨ups M v ((msk (fun i => decide (f i = (v : Int))) n : Nat) : Int), ups Q v (hco n W X K g (pv f v)), (hput_ne (by omega)).trans ((hput_ne (by omega)).trans a1), (hput_ne (by omega)).trans hput_eq, hput_eq, fun u hu => ?_, a5'.put (by omega)⟩, rfl⟩
    rw [ups_at, ups_at]
    by_cases w : u = v
    · subst w; rw [if_pos rfl, if_pos rfl]; exact ⟨rfl, rfl⟩
    · rw [if_neg w, if_neg w]; exact a4 u (by omega)
  · intro N z ⟨M, Q, a1, a2, a3, a4, a5⟩
    have S2 := S1 z a5
    have P2 := S2.2.2.2.2.2
    rw [fX4_weighHeaps_11, gR 5 S2.1 rfl, ob, gI 1 P2.1 rfl, ob, if_pos (by omega), fX4_weighHeaps_59]
    exact ⟨z, rfl, ⟨M, Q, a1, a2, a3, a4⟩, a5⟩
theorem costAfter_ok (S : isSc h 2 n P W X K (mx f n) f) (hn1 : 1 ≤ n) (hn : n ≤ 12) (hW : Wok W) (hX : Xok X K) (hr : RGS n f) {g : Int} (hg : 0 ≤ g ∧ g ≤ 3) (D : WG n W X K g f h) {t v : Nat} (ht : t < n) (hv : (v : Int) ≤ mx f n) (hvt : (v : Int) ≠ f t) : fX4_costAfter 41 2 g t v h = some (mc n W X K g f t v, h) := by
  have hm := hr.mx_le; have hm0 := mx_nonneg f n
  obtain ⟨kk, hkk⟩ : ∃ kk : Nat, mx f n = (kk : Int) := ⟨(mx f n).toNat, by omega⟩
  have hft := hr t ht
  have hft2 := lt_mx (g := f) ht
  obtain ⟨a, ha⟩ : ∃ a : Nat, f t = (a : Int) := ⟨(f t).toNat, by omega⟩
  obtain ⟨M, Q, a1, a2, a3, a4⟩ := D
  have P2 := S.2.2.2.2.2
  have gb := grd_bd hn hX
  have hc0 : -1000000 ≤ gd n X K g ∧ gd n X K g ≤ 1000000 := by unfold gd; split <;> omega
  have hT : ∀ u : Nat, -1000000000000000 ≤ hco n W X K g (pv (ups f t v) u) ∧ hco n W X K g (pv (ups f t v) u) ≤ 1000000000000000 := fun u => hco_bd hn hW hX g _
  have hT' : ∀ u : Nat, -1000000000000000 ≤ (if u = a ∨ u = v then 0 else hco n W X K g (pv (ups f t v) u)) ∧ (if u = a ∨ u = v then 0 else hco n W X K g (pv (ups f t v) u)) ≤ 1000000000000000 := fun u => by
    have := hT u
    split <;> omega
  have h2c : g = 2 → gd n X K g = 0 := fun z => by unfold gd; rw [if_neg (by omega)]
  have hMa : M a = ((msk (fun i => decide (f i = (a : Int))) n : Nat) : Int) := (a4 a (by omega)).1
  have lt12 : ∀ p : Nat → Bool, msk p n < 4096 := fun p => by
    have := msk_lt p n
    have : 2 ^ n ≤ 2 ^ 12 := Nat.pow_le_pow_right (by decide) hn
    omega
  have h2t : 2 ^ t < 4096 := by
    have : 2 ^ t ≤ 2 ^ 11 := Nat.pow_le_pow_right (by decide) (by omega)
    omega
  -- the end
  have fin : ∀ c : Int, -20000000000000000 ≤ c → c ≤ 20000000000000000 → fX4_costAfter_71 41 2 g t v kk a c h = some (wth g (wth g c (hco n W X K g (pv (ups f t v) a))) (hco n W X K g (pv (ups f t v) v)), h) := by
    intro c hc1 hc2
    have f89 : ∀ s0 : Nat, s0 < 4096 → (∀ i, i < n → (s0 ||| 2 ^ t).testBit i = pv (ups f t v) v i) → fX4_costAfter_89 41 2 g t a c s0 h = some (wth g (wth g c (hco n W X K g (pv (ups f t v) a))) (hco n W X K g (pv (ups f t v) v)), h) := by
      intro s0 hs0 hb
      have eA : hco n W X K g (ndf (msk (fun i => decide (f i = (a : Int))) n) (2 ^ t)).testBit = hco n W X K g (pv (ups f t v) a) := hco_congr hn (fun _ _ => rfl) (fun _ _ => rfl) (fun _ _ => rfl) (fun i hi => by
        rw [ndf_bit (by have := lt12 (fun i => decide (f i = (a : Int))); omega) (by omega), msk_bit, Nat.testBit_two_pow]
        unfold pv
        rw [ups_at]
        by_cases w : i = t
        · subst w
          have : ¬ ((v : Int) = (a : Int)) := by omega
          simp [this]
        · have w' : ¬ t = i := fun y => w y.symm
          simp [w, w', hi]) g
      have eB : hco n W X K g (s0 ||| 2 ^ t).testBit = hco n W X K g (pv (ups f t v) v) := hco_congr hn (fun _ _ => rfl) (fun _ _ => rfl) (fun _ _ => rfl) hb g
      have lA := ndf_le (a := msk (fun i => decide (f i = (a : Int))) n) (b := 2 ^ t) (by have := lt12 (fun i => decide (f i = (a : Int))); omega)
      have lA2 := lt12 (fun i => decide (f i = (a : Int)))
      have lB : s0 ||| 2 ^ t < 2 ^ 12 := Nat.or_lt_two_pow (by omega) (by omega)
      have bA := hT a
      have bB := hT v
      have bw : -30000000000000000 ≤ wth g c (hco n W X K g (pv (ups f t v) a)) ∧ wth g c (hco n W X K g (pv (ups f t v) a)) ≤ 30000000000000000 := by
        unfold wth
        split <;> omega
      rw [fX4_costAfter_89, gR 0 a1 rfl, ob, ald_of a a2 rfl (by omega), ob, hMa, bShl_1 t (by omega), bNot_n (by omega), ofHeap_ok S hn1 hn hW hX (by omega) g, ob, eA]
      show ((fX0_with g c (hco n W X K g (pv (ups f t v) a)) h).bind fun _ => _) = _
      rw [with_ok h (by omega) (by omega), ob]
      show ((fX0_ofHeap 2 g (bOr s0 ((2 ^ t : Nat) : Int)) h).bind fun _ => _) = _
      rw [bOr_n (by omega) (by omega), ofHeap_ok S hn1 hn hW hX (by omega) g, ob, eB]
      show ((fX0_with g (wth g c (hco n W X K g (pv (ups f t v) a))) (hco n W X K g (pv (ups f t v) v)) h).bind fun _ => _) = _
      rw [with_ok h (by omega) (by omega), ob]
    rw [fX4_costAfter_71]
    by_cases z : (kk : Int) ≤ v
    · rw [if_pos z]
      refine f89 0 (by omega) (fun i hi => ?_)
      have l := lt_mx (g := f) hi
      rw [Nat.zero_or, Nat.testBit_two_pow]
      unfold pv
      rw [ups_at]
      by_cases w : i = t
      · simp [w]
      · have w' : ¬ t = i := fun y => w y.symm
        have : ¬ (f i = (v : Int)) := by omega
        simp [w, w', this]
    · rw [if_neg z, gR 0 a1 rfl, ob, ald_of v a2 rfl (by omega), ob, (a4 v (by omega)).1]
      refine f89 _ (lt12 _) (fun i hi => ?_)
      rw [Nat.testBit_or, msk_bit, Nat.testBit_two_pow]
      unfold pv
      rw [ups_at]
      by_cases w : i = t
      · simp [w]
      · have w' : ¬ t = i := fun y => w y.symm
        simp [w, w', hi]
  unfold fX4_costAfter
  rw [gR 5 S.1 rfl, ob, gI 1 P2.1 rfl, ob, ob, gR 2 P2.1 rfl, ob, ald_of t P2.2.1 rfl (by omega), ob, gL 2 a1 rfl, ob, hkk, ha]
  have em : mc n W X K g f t v = wth g (wth g (cfold g (gd n X K g) (fun u => if u = a ∨ u = v then 0 else hco n W X K g (pv (ups f t v) u)) kk) (hco n W X K g (pv (ups f t v) a))) (hco n W X K g (pv (ups f t v) v)) := by
    show cfold g (gd n X K g) (fun u : Nat => hco n W X K g (pv (ups f t v) u)) ((mx f n).toNat + 1) = _
    rw [hkk, Int.toNat_natCast]
    refine (cf_two (T := fun u : Nat => hco n W X K g (pv (ups f t v) u)) (by omega) (by omega) (by omega) (fun w => hco_none (fun i hi => ?_)) (fun w => ⟨h2c w, fun u => ?_⟩)).symm
    · have l := lt_mx (g := f) hi
      unfold pv
      rw [ups_at]
      by_cases y : i = t
      · have : ¬ ((v : Int) = (kk : Int)) := by omega
        simp [y, this]
      · have : ¬ (f i = (kk : Int)) := by omega
        simp [y, this]
    · show 0 ≤ hco n W X K g (pv (ups f t v) u)
      unfold hco
      rw [if_neg (by omega), if_neg (by omega), if_pos w]
      exact (hwd_bd hn hW _).1
  rw [em]
  refine lp (fun N u (c : Int) => fX4_costAfter_29 N 41 2 g t v kk a c u h) (fun u c => c = cfold g (gd n X K g) (fun u => if u = a ∨ u = v then 0 else hco n W X K g (pv (ups f t v) u)) u) kk (fun r => r = some (wth g (wth g (cfold g (gd n X K g) (fun u => if u = a ∨ u = v then 0 else hco n W X K g (pv (ups f t v) u)) kk) (hco n W X K g (pv (ups f t v) a))) (hco n W X K g (pv (ups f t v) v)), h)) ?_ ?_ FU 0 _ (Nat.zero_le _) (FU_lt (by omega)) rfl
  · intro N u c hu hc
    have cb := cfold_bd (g := g) hc0 (k := u) (T := fun u => if u = a ∨ u = v then 0 else hco n W X K g (pv (ups f t v) u)) (fun u _ => hT' u)
    rw [← hc] at cb
    show ∃ s', _ ∧ fX4_costAfter_29 (N + 1) 41 2 g t v kk a c u h = fX4_costAfter_29 N 41 2 g t v kk a s' ((u + 1 : Nat) : Int) h
    rw [fX4_costAfter_29, if_neg (by omega)]
    by_cases w1 : u = a
    · rw [if_pos (by omega), fX4_costAfter_65, c32_n (by omega) (by omega), ob]
      refine ⟨c, ?_, rfl⟩
      rw [cfold_skip h2c (by rw [if_pos (Or.inl w1)])]; exact hc
    · rw [if_neg (by omega)]
      by_cases w2 : u = v
      · rw [if_pos (by omega), fX4_costAfter_65, c32_n (by omega) (by omega), ob]
        refine ⟨c, ?_, rfl⟩
        rw [cfold_skip h2c (by rw [if_pos (Or.inr w2)])]; exact hc
      · have eq : hco n W X K g (pv f u) = hco n W X K g (pv (ups f t v) u) := hco_congr hn (fun _ _ => rfl) (fun _ _ => rfl) (fun _ _ => rfl) (fun i hi => by
          unfold pv
          rw [ups_at]
          by_cases y : i = t
          · rw [if_pos y, y, ha]
            have b1 : ¬ ((a : Int) = u) := by omega
            have b2 : ¬ ((v : Int) = u) := by omega
            simp [b1, b2]
          · rw [if_neg y]) g
        have bu := hT u
        rw [if_neg (by omega), gR 1 a1 rfl, ob, ald_of u a3 rfl (by omega), ob, (a4 u (by omega)).2, eq, with_ok h (by omega) (by omega), ob]
        show ∃ s', _ ∧ fX4_costAfter_65 (fX4_costAfter_29 N) 41 2 g t v kk a (wth g c (hco n W X K g (pv (ups f t v) u))) u h = _
        rw [fX4_costAfter_65, c32_n (by omega) (by omega), ob]
        refine ⟨_, ?_, rfl⟩
        simp only [cfold]
        rw [← hc, if_neg (show ¬ (u = a ∨ u = v) by omega)]; rfl
  · intro N c hc
    have cb := cfold_bd (g := g) hc0 (k := kk) (T := fun u => if u = a ∨ u = v then 0 else hco n W X K g (pv (ups f t v) u)) (fun u _ => hT' u)
    rw [← hc] at cb
    show fX4_costAfter_29 (N + 1) 41 2 g t v kk a c kk h = _
    rw [fX4_costAfter_29, if_pos (by omega), fin c (by omega) (by omega), hc]
end
