/-! the reference's costs over a row of which only the things' part is known -/
def WokN (n : Nat) (W : Nat → Int) : Prop := ∀ a b, a < n → b < n → 0 ≤ W (12 * a + b) ∧ W (12 * a + b) ≤ 10000
theorem WokN.cut {n : Nat} {W : Nat → Int} (h : WokN n W) (hn : n ≤ 12) : ∃ W', Wok W' ∧ EqW n W W' := by
  refine ⟨fun i => if i / 12 < n ∧ i % 12 < n then W i else 0, fun i hi => ?_, fun a b ha hb => ?_⟩
  · show 0 ≤ (if i / 12 < n ∧ i % 12 < n then W i else 0) ∧ (if i / 12 < n ∧ i % 12 < n then W i else 0) ≤ 10000
    split
    · next z => have := h (i / 12) (i % 12) z.1 z.2; rw [show 12 * (i / 12) + i % 12 = i by omega] at this; exact this
    · omega
  · show W (12 * a + b) = if (12 * a + b) / 12 < n ∧ (12 * a + b) % 12 < n then W (12 * a + b) else 0
    rw [if_pos ⟨by omega, by omega⟩]
theorem hsum_bdn {n : Nat} {W : Nat → Int} (hn : n ≤ 12) (hW : WokN n W) (p : Nat → Bool) {t : Nat} (ht : t < n) : 0 ≤ hsum n W p t ∧ hsum n W p t ≤ 120000 := by
  obtain ⟨W', w1, w2⟩ := hW.cut hn
  rw [hsum_cn w2 ht]; exact hsum_bd hn w1 p (by omega)
theorem hsq_bdn {n : Nat} {W : Nat → Int} (hn : n ≤ 12) (hW : WokN n W) (p : Nat → Bool) : 0 ≤ hsq n W p ∧ hsq n W p ≤ 14400000000 := by
  obtain ⟨W', w1, w2⟩ := hW.cut hn
  have e1 : hsq n W p = hsq n W' p := sumN_congr (fun i hi => by
    have : hsq1 W p i = hsq1 W' p i := sumN_congr (fun j hj => by rw [w2 i j hi (by omega)])
    rw [this])
  rw [e1]; exact hsq_bd hn w1 p
theorem hco_bd0 {n : Nat} {W X K : Nat → Int} (hn : n ≤ 12) (hW : WokN n W) (p : Nat → Bool) : -1000000000000000 ≤ hco n W X K 0 p ∧ hco n W X K 0 p ≤ 1000000000000000 := by
  obtain ⟨W', w1, w2⟩ := hW.cut hn
  rw [hco_cn (X' := fun _ => 0) (K' := fun _ => 0) w2 (by omega) (by omega)]
  exact hco_bd hn w1 (fun i _ => ⟨⟨by show (0 : Int) ≤ 0; omega, by show (0 : Int) ≤ 1000; omega⟩, Or.inl rfl⟩) 0 p
section
variable {h : Hp} {s : Scn} {hist : List Scn} {x : Aux} {flt : Int} {q m : Nat} {f U : Nat → Int}
theorem r_sumTon (R : RI h s hist x flt) (hn : sn s ≤ 12) (e : h.2 q = some (arr 0 m f)) (hm : sn s ≤ m) (u : h.2 79 = some (arr 0 144 U)) (hU : WokN (sn s) U) (v : Int) {t : Nat} (ht : t < sn s) : fX12_sumTo 62 q v t h = some (hsum (sn s) U (pv f v) t, h) := by
  obtain ⟨pa, fp, sm, o⟩ := R.obj
  unfold fX12_sumTo
  refine lpsum (fun N i c => fX12_sumTo_6 N 62 q v t c i h) (fun b => if pv f v b then U (12 * t + b) else 0) (sn s) 0 0 10000 _ (by omega) (Nat.zero_le _) (fun i hi => by omega) (fun i hi => ?_) ?_ ?_
  · show -10000 ≤ (if pv f v i then U (12 * t + i) else 0) ∧ (if pv f v i then U (12 * t + i) else 0) ≤ 10000
    have := hU t i (by omega) (by omega)
    split <;> omega
  · intro N i c h1 hi h2 h3
    have := hU t i (by omega) (by omega)
    simp only [fX12_sumTo_6, fX12_sumTo_40]
    rw [R.nb, if_neg (by show ¬ (sn s : Int) ≤ i; omega), ald_of i e rfl (by omega), ob]
    by_cases ev : f i = v
    · rw [if_pos ev, gR 23 o rfl, ob, ald_of (12 * t + i) u (by omega) (by omega), ob, c32_n (by omega) (by omega), ob, c32_n (by omega) (by omega), ob, if_pos (show pv f v i = true by simp [pv, ev])]; rfl
    · rw [if_neg ev, c32_n (by omega) (by omega), ob, if_neg (show ¬ pv f v i = true by simp [pv, ev]), Int.add_zero]; rfl
  · intro N
    simp only [fX12_sumTo_6, fX12_sumTo_46]
    rw [R.nb, if_pos (by show (sn s : Int) ≤ sn s; omega), Int.zero_add]; rfl
theorem r_middleOfn (R : RI h s hist x flt) (hn : sn s ≤ 12) (e : h.2 q = some (arr 0 m f)) (hm : sn s ≤ m) (u : h.2 79 = some (arr 0 144 U)) (hU : WokN (sn s) U) (v : Int) : fX12_middleOf 62 q v h = some (hmd (sn s) U (pv f v) (sn s), h) := by
  unfold fX12_middleOf
  refine lp (fun N i (c : Int) => fX12_middleOf_5 N 62 q v c i h) (fun i c => c = hmd (sn s) U (pv f v) i) (sn s) (fun r => r = some (hmd (sn s) U (pv f v) (sn s), h)) ?_ ?_ FU 0 (-1) (Nat.zero_le _) (FU_lt (by omega)) rfl
  · intro N i c hi hc
    refine ⟨_, rfl, ?_⟩
    simp only [fX12_middleOf_5, fX12_middleOf_48, fX12_middleOf_51]
    rw [R.nb, if_neg (by show ¬ (sn s : Int) ≤ i; omega), ald_of i e rfl (by omega), ob]
    by_cases ev : f i = v
    · have hp : pv f v i = true := by simp [pv, ev]
      rw [if_pos ev]
      simp only [hmd]
      rw [if_pos hp, ← hc]
      have hi2 := hmd_in (sn s) U (pv f v) i
      by_cases e1 : c = -1
      · rw [if_pos e1, c32_n (by omega) (by omega), ob, if_pos (Or.inl e1)]; rfl
      · have ec : c = ((c.toNat : Nat) : Int) := by omega
        have hs := r_sumTon R hn e hm u hU v (t := c.toNat) (by omega)
        rw [← ec] at hs
        rw [if_neg e1, R.cb, ob, r_sumTon R hn e hm u hU v (t := i) (by omega), ob]
        simp only []
        rw [R.cb, ob, hs, ob]
        by_cases e2 : hsum (sn s) U (pv f v) i < hsum (sn s) U (pv f v) c.toNat
        · rw [if_neg (by show ¬ hsum (sn s) U (pv f v) c.toNat ≤ hsum (sn s) U (pv f v) i; omega), c32_n (by omega) (by omega), ob, if_pos (Or.inr e2)]; rfl
        · rw [if_pos (by show hsum (sn s) U (pv f v) c.toNat ≤ hsum (sn s) U (pv f v) i; omega), c32_n (by omega) (by omega), ob, if_neg (by intro y; rcases y with y | y; exact e1 y; exact e2 y)]; rfl
    · have hp : ¬ pv f v i = true := by simp [pv, ev]
      rw [if_neg ev, c32_n (by omega) (by omega), ob]
      simp only [hmd]
      rw [if_neg hp, hc]; rfl
  · intro N c hc
    simp only [fX12_middleOf_5, fX12_middleOf_57]
    rw [R.nb, if_pos (by show (sn s : Int) ≤ sn s; omega), hc]
theorem rsq1_bdn {n : Nat} {U : Nat → Int} (hn : n ≤ 12) (hU : WokN n U) (p : Nat → Bool) {a : Nat} (ha : a < n) : 0 ≤ rsq1 n U p a ∧ rsq1 n U p a ≤ 1200000000 := by
  have h1 : 0 ≤ rsq1 n U p a := sumN_nonneg (fun i hi => by
    have := sq_bd (hU a i (by omega) (by omega))
    split <;> (try split) <;> omega)
  have h2 : rsq1 n U p a ≤ n * 100000000 := sumN_le (fun i hi => by
    have := sq_bd (hU a i (by omega) (by omega))
    split <;> (try split) <;> omega)
  omega
theorem rsq_bdn {n i : Nat} {U : Nat → Int} (hn : n ≤ 12) (hi : i ≤ n) (hU : WokN n U) (p : Nat → Bool) : 0 ≤ rsq n U p i ∧ rsq n U p i ≤ 14400000000 := by
  have h1 : 0 ≤ rsq n U p i := sumN_nonneg (fun j hj => by
    have := rsq1_bdn hn hU p (a := j) (by omega)
    split <;> omega)
  have h2 : rsq n U p i ≤ i * 1200000000 := sumN_le (fun j hj => by
    have := rsq1_bdn hn hU p (a := j) (by omega)
    split <;> omega)
  omega
theorem r_c62n (R : RI h s hist x flt) (hn : sn s ≤ 12) (e : h.2 q = some (arr 0 m f)) (hm : sn s ≤ m) (u : h.2 79 = some (arr 0 144 U)) (hU : WokN (sn s) U) (K1 : Nat → Nat → Int → Int → Int → Hp → Option (Int × Hp)) (K2 : Nat → Nat → Int → Int → Int → Int → Int → Int → Hp → Option (Int × Hp)) (c3 c5 : Int) (v : Int) (c sz : Int) (h0 : 0 ≤ c) (h1 : c ≤ 100000000000) {a : Nat} (ha : a < sn s) :
    fX12_costOf_62 K1 K2 FU 62 q c3 c5 v c sz a ((a + 1 : Nat) : Int) h = fX12_costOf_120 K1 K2 62 q c3 c5 v (c + rsq1 (sn s) U (pv f v) a) sz a h := by
  obtain ⟨pa, fp, sm, o⟩ := R.obj
  refine lpsum (fun N i c => fX12_costOf_62 K1 K2 N 62 q c3 c5 v c sz a i h) (fun b => if a < b then (if pv f v b then U (12 * a + b) * U (12 * a + b) else 0) else 0) (sn s) (a + 1) c 100000000 _ (by omega) (by omega) (fun i hi => by rw [if_neg (by omega)]) (fun i hi => ?_) ?_ ?_
  · show -100000000 ≤ (if a < i then (if pv f v i then U (12 * a + i) * U (12 * a + i) else 0) else 0) ∧ (if a < i then (if pv f v i then U (12 * a + i) * U (12 * a + i) else 0) else 0) ≤ 100000000
    have := sq_bd (hU a i (by omega) (by omega))
    split <;> (try split) <;> omega
  · intro N i c' h1 hi h2 h3
    have := sq_bd (hU a i (by omega) (by omega))
    simp only [fX12_costOf_62, fX12_costOf_114]
    rw [R.nb, if_neg (by show ¬ (sn s : Int) ≤ i; omega), ald_of i e rfl (by omega), ob]
    by_cases ev : f i = v
    · rw [if_pos ev, gR 23 o rfl, ob, ald_of (12 * a + i) u (by omega) (by omega), ob, ob, ald_of (12 * a + i) u (by omega) (by omega), ob, c64_n (by omega) (by omega), ob, c32_n (by omega) (by omega), ob, if_pos (by omega), if_pos (show pv f v i = true by simp [pv, ev])]; rfl
    · rw [if_neg ev, c32_n (by omega) (by omega), ob, if_pos (by omega), if_neg (show ¬ pv f v i = true by simp [pv, ev]), Int.add_zero]; rfl
  · intro N
    simp only [fX12_costOf_62]
    rw [R.nb, if_pos (by show (sn s : Int) ≤ sn s; omega)]; rfl
theorem r_c16n (R : RI h s hist x flt) (hn : sn s ≤ 12) (e : h.2 q = some (arr 0 m f)) (hm : sn s ≤ m) (u : h.2 79 = some (arr 0 144 U)) (hU : WokN (sn s) U) (hS : Sym (sn s) U) (hr : RGS (sn s) f) {kk : Nat} (hk : (kk : Int) = mx f (sn s)) : fX12_costOf_16 FU 62 q 0 kk 0 h = some (sumN kk (fun v => hco (sn s) U (sX s) (sK s) 0 (pv f v)), h) := by
  have hml := hr.mx_le
  refine lpsum (fun N i c => fX12_costOf_16 N 62 q c kk i h) (fun v => hco (sn s) U (sX s) (sK s) 0 (pv f v)) kk 0 0 1000000000000000 _ (by omega) (Nat.zero_le _) (fun i hi => by omega) (fun i hi => ?_) ?_ ?_
  · unfold hco
    rw [if_pos rfl]
    split
    · omega
    · have h1 := hsq_bdn hn hU (pv f i); have h2 := hct_bd (sn s) (pv f i)
      have h3 : 0 ≤ hsq (sn s) U (pv f i) * 27720 / hct (sn s) (pv f i) := Int.ediv_nonneg (by omega) (by omega)
      have h4 : hsq (sn s) U (pv f i) * 27720 / hct (sn s) (pv f i) ≤ hsq (sn s) U (pv f i) * 27720 := Int.ediv_le_self _ (by omega)
      omega
  · intro N v c _ hv h2 h3
    simp only [fX12_costOf_16]
    rw [if_neg (by omega)]
    have in1 : fX12_costOf_32 (fX12_costOf_16 N) FU 62 q c kk v 0 0 0 h = fX12_costOf_126 (fX12_costOf_16 N) 62 q c kk v (rsq (sn s) U (pv f v) (sn s)) (hct (sn s) (pv f v)) h := by
      refine lp (fun N' a (z : Int × Int) => fX12_costOf_32 (fX12_costOf_16 N) N' 62 q c kk v z.1 z.2 a h) (fun a z => z.1 = rsq (sn s) U (pv f v) a ∧ z.2 = hct a (pv f v)) (sn s) (fun r => r = fX12_costOf_126 (fX12_costOf_16 N) 62 q c kk v (rsq (sn s) U (pv f v) (sn s)) (hct (sn s) (pv f v)) h) ?_ ?_ FU 0 (0, 0) (Nat.zero_le _) (FU_lt (by omega)) ⟨rfl, rfl⟩
      · intro N' a ⟨c1, z1⟩ ha ⟨q1, q2⟩
        have q1 : c1 = rsq (sn s) U (pv f v) a := q1
        have q2 : z1 = hct a (pv f v) := q2
        have b1 := rsq_bdn hn (i := a) (by omega) hU (pv f v); have b2 := hct_bd a (pv f v)
        simp only [fX12_costOf_32]
        rw [R.nb, if_neg (by show ¬ (sn s : Int) ≤ a; omega), ald_of a e rfl (by omega), ob]
        by_cases ev : f a = v
        · have hp : pv f v a = true := by simp [pv, ev]
          refine ⟨(c1 + rsq1 (sn s) U (pv f v) a, z1 + 1), ⟨?_, ?_⟩, ?_⟩
          · simp only [rsq, sumN, if_pos hp]; rw [q1]; rfl
          · simp only [hct, sumN, if_pos hp]; rw [q2]; rfl
          · rw [if_pos ev, c32_n (by omega) (by omega), ob, c32_n (by omega) (by omega), ob]
            have := r_c62n R hn e hm u hU (fX12_costOf_16 N) (fX12_costOf_32 (fX12_costOf_16 N) N') c kk v c1 (z1 + 1) (by omega) (by omega) ha
            rw [show ((a : Int) + 1) = ((a + 1 : Nat) : Int) from rfl, this]
            simp only [fX12_costOf_120]
            rw [c32_n (by omega) (by omega), ob]; rfl
        · have hp : ¬ pv f v a = true := by simp [pv, ev]
          refine ⟨(c1, z1), ⟨?_, ?_⟩, ?_⟩
          · simp only [rsq, sumN, if_neg hp]; rw [q1, Int.add_zero]; rfl
          · simp only [hct, sumN, if_neg hp]; rw [q2, Int.add_zero]; rfl
          · rw [if_neg ev]
            simp only [fX12_costOf_120]
            rw [c32_n (by omega) (by omega), ob]; rfl
      · intro N' ⟨c1, z1⟩ ⟨q1, q2⟩
        simp only [fX12_costOf_32]
        rw [R.nb, if_pos (by show (sn s : Int) ≤ sn s; omega), show c1 = _ from q1, show z1 = _ from q2]
    rw [in1, rsq_eq hS]
    obtain ⟨j, hj, hjv⟩ := hr.onto v (by omega) (by omega)
    have b1 := hsq_bdn hn hU (pv f v); have b2 := hct_bd (sn s) (pv f v)
    have b3 : 1 ≤ hct (sn s) (pv f v) := hct_pos hj (by simp [pv, hjv])
    have eh : hco (sn s) U (sX s) (sK s) 0 (pv f v) = hsq (sn s) U (pv f v) * (27720 / hct (sn s) (pv f v)) := by
      unfold hco
      rw [if_pos rfl, if_neg (by omega), Int.mul_ediv_assoc _ (d27 b3 (by omega))]
    have eb : bDiv 27720 (hct (sn s) (pv f v)) = 27720 / hct (sn s) (pv f v) := by
      obtain ⟨w, hw⟩ := Int.eq_ofNat_of_zero_le b2.1
      rw [hw]
      have := bDiv_n (a := 27720) (b := w) (by omega) (by omega) (by omega)
      rw [show (27720 : Int) = ((27720 : Nat) : Int) from rfl, this]; rfl
    have hb := hco_bd0 (X := sX s) (K := sK s) hn hU (pv f v)
    rw [eh] at hb
    simp only [fX12_costOf_126]
    rw [show cnz (hct (sn s) (pv f v)) = some () from if_neg (by omega), ob, eb, c64_n (by omega) (by omega), ob, c32_n (by omega) (by omega), ob, eh]; rfl
  · intro N
    simp only [fX12_costOf_16, fX12_costOf_145, fX12_costOf_310]
    rw [if_pos (by omega), Int.zero_add]
theorem rwd_eqn {n : Nat} {U f : Nat → Int} (hn : n ≤ 12) (hU : WokN n U) (hS : Sym n U) (hr : RGS n f) : rwd n U f = maxN (mx f n).toNat (fun v => hwd n U (pv f v)) := by
  have hm0 := mx_nonneg f n
  apply Int.le_antisymm
  · refine maxN_le (maxN_nonneg _ _) (fun a ha => maxN_le (maxN_nonneg _ _) (fun b hb => ?_))
    by_cases h1 : a < b
    · rw [if_pos h1]
      by_cases h2 : f a = f b
      · rw [if_pos h2]
        have hb1 := hr b hb; have hb2 := lt_mx (g := f) hb
        have e3 : (((f b).toNat : Nat) : Int) = f b := by omega
        have t1 : U (12 * b + a) ≤ hrch U (pv f (f b)) b b := by
          have := le_maxN (n := b) (F := fun j => if pv f (f b) j then U (12 * b + j) else 0) h1
          have pa : pv f (f b) a = true := by simp [pv, h2]
          simp only [pa, if_pos] at this
          exact this
        have t2 : hrch U (pv f (f b)) b b ≤ hwd n U (pv f (f b)) := by
          have := le_maxN (n := n) (F := fun a => if pv f (f b) a then hrch U (pv f (f b)) a a else 0) hb
          have pb : pv f (f b) b = true := by simp [pv]
          simp only [pb, if_pos] at this
          exact this
        have t3 := le_maxN (n := (mx f n).toNat) (F := fun v => hwd n U (pv f v)) (i := (f b).toNat) (by omega)
        simp only [e3] at t3
        rw [hS a b ha hb]; omega
      · rw [if_neg h2]; exact maxN_nonneg _ _
    · rw [if_neg h1]; exact maxN_nonneg _ _
  · refine maxN_le (maxN_nonneg _ _) (fun v hv => maxN_le (maxN_nonneg _ _) (fun b hb => ?_))
    by_cases pb : pv f v b = true
    · rw [if_pos pb]
      refine maxN_le (maxN_nonneg _ _) (fun a ha => ?_)
      by_cases pa : pv f v a = true
      · rw [if_pos pa]
        have ea : f a = f b := by simp [pv] at pa pb; omega
        have t1 := le_maxN (n := n) (F := fun b => if a < b then (if f a = f b then U (12 * a + b) else 0) else 0) hb
        simp only [ha, if_pos, ea] at t1
        have t2 := le_maxN (n := n) (F := fun a => maxN n (fun b => if a < b then (if f a = f b then U (12 * a + b) else 0) else 0)) (i := a) (by omega)
        simp only [ea] at t2
        have t3 : maxN n (fun a => maxN n (fun b => if a < b then (if f a = f b then U (12 * a + b) else 0) else 0)) = rwd n U f := rfl
        rw [hS b a hb (by omega)]; omega
      · rw [if_neg pa]; exact maxN_nonneg _ _
    · rw [if_neg pb]; exact maxN_nonneg _ _
theorem r_c156n (R : RI h s hist x flt) (hn : sn s ≤ 12) (e : h.2 q = some (arr 0 m f)) (hm : sn s ≤ m) (u : h.2 79 = some (arr 0 144 U)) (hU : WokN (sn s) U) (hr : RGS (sn s) f) {kk : Nat} (hk : (kk : Int) = mx f (sn s)) : fX12_costOf_156 FU 62 q 0 kk 0 h = some (sumN kk (fun v => hco (sn s) U (sX s) (sK s) 1 (pv f v)), h) := by
  have hml := hr.mx_le
  have key : ∀ v : Nat, v < kk → ∃ t : Nat, t < sn s ∧ hmd (sn s) U (pv f v) (sn s) = (t : Int) ∧ hco (sn s) U (sX s) (sK s) 1 (pv f v) = hsum (sn s) U (pv f v) t := by
    intro v hv
    have hmi := hmd_in (sn s) U (pv f v) (sn s)
    obtain ⟨j, hj, hjv⟩ := hr.onto v (by omega) (by omega)
    have pj : pv f v j = true := by simp [pv, hjv]
    have hne : ∀ i, j < i → hmd (sn s) U (pv f v) i ≠ -1 := by
      intro i
      induction i with
      | zero => intro z; omega
      | succ i ih =>
        intro hi
        have hi2 := hmd_in (sn s) U (pv f v) i
        simp only [hmd]
        by_cases z : j = i
        · subst z
          rw [if_pos pj]; split <;> omega
        · have := ih (by omega)
          split
          · split <;> omega
          · exact this
    have h1 := hne (sn s) hj
    refine ⟨(hmd (sn s) U (pv f v) (sn s)).toNat, by omega, by omega, ?_⟩
    unfold hco
    rw [if_neg (by omega), if_pos rfl, if_neg h1]
  refine lpsum (fun N i c => fX12_costOf_156 N 62 q c kk i h) (fun v => hco (sn s) U (sX s) (sK s) 1 (pv f v)) kk 0 0 120000 _ (by omega) (Nat.zero_le _) (fun i hi => by omega) (fun i hi => ?_) ?_ ?_
  · obtain ⟨t, ht, h1, h2⟩ := key i hi
    have := hsum_bdn hn hU (pv f i) ht
    exact ⟨by show -120000 ≤ hco (sn s) U (sX s) (sK s) 1 (pv f i); omega, by show hco (sn s) U (sX s) (sK s) 1 (pv f i) ≤ 120000; omega⟩
  · intro N v c _ hv h2 h3
    obtain ⟨t, ht, h4, h5⟩ := key v hv
    have := hsum_bdn hn hU (pv f v) ht
    simp only [fX12_costOf_156]
    rw [if_neg (by omega), R.cb, ob, r_middleOfn R hn e hm u hU, ob]
    simp only []
    rw [R.cb, ob, h4, r_sumTon R hn e hm u hU v ht, ob, c64_n (by show -9223372036854775808 ≤ c + hsum (sn s) U (pv f v) t; omega) (by show c + hsum (sn s) U (pv f v) t ≤ 9223372036854775807; omega), ob, c32_n (by omega) (by omega), ob, h5]; rfl
  · intro N
    simp only [fX12_costOf_156, fX12_costOf_187, fX12_costOf_310]
    rw [if_pos (by omega), Int.zero_add]
theorem r_c193wn (R : RI h s hist x flt) (hn : sn s ≤ 12) (e : h.2 q = some (arr 0 m f)) (hm : sn s ≤ m) (u : h.2 79 = some (arr 0 144 U)) (hU : WokN (sn s) U) : fX12_costOf_193 FU 62 q 2 0 0 h = some (rwd (sn s) U f, h) := by
  obtain ⟨pa, fp, sm, o⟩ := R.obj
  have hG : ∀ a, a < sn s → ∀ b, b < sn s → (if a < b then (if f a = f b then U (12 * a + b) else 0) else 0) ≤ 10000 := by
    intro a ha b hb
    have := hU a b (by omega) (by omega)
    split <;> (try split) <;> omega
  refine lpmax (fun N i c => fX12_costOf_193 N 62 q 2 c i h) (fun a => maxN (sn s) (fun b => if a < b then (if f a = f b then U (12 * a + b) else 0) else 0)) (sn s) 0 10000 _ (by omega) (Nat.zero_le _) (by omega) (fun i hi => by omega) (fun i hi => maxN_le (by omega) (hG i hi)) ?_ ?_
  · intro N a c _ ha h2 h3
    simp only [fX12_costOf_193]
    rw [R.nb, if_neg (by show ¬ (sn s : Int) ≤ a; omega), c32_n (by omega) (by omega), ob]
    refine lpmax' (fun N' b c => fX12_costOf_208 (fX12_costOf_193 N) N' 62 q 2 c a b h) (fun b => if a < b then (if f a = f b then U (12 * a + b) else 0) else 0) (sn s) (a + 1) c 10000 _ (by omega) (by omega) (by omega) h2 h3 (fun i hi => by show (if a < i then _ else (0 : Int)) ≤ 0; rw [if_neg (by omega)]; omega) (hG a ha) ?_ ?_
    · intro N' b c' hb0 hb hc0 hc1
      simp only [fX12_costOf_208, fX12_costOf_256, fX12_costOf_298]
      rw [R.nb, if_neg (by show ¬ (sn s : Int) ≤ b; omega), c32_n (by omega) (by omega), ob, if_pos trivial, ald_of a e rfl (by omega), ob, ald_of b e rfl (by omega), ob]
      by_cases ev : f a = f b
      · rw [if_pos ev, gR 23 o rfl, ob, ald_of (12 * a + b) u (by omega) (by omega), ob, if_neg (by omega), c32_n (by omega) (by omega), ob, if_pos (by omega), if_pos ev]; rfl
      · rw [if_neg ev, if_neg (by omega), c32_n (by omega) (by omega), ob, if_pos (by omega), if_neg ev, max_0 hc0]; rfl
    · intro N'
      simp only [fX12_costOf_208, fX12_costOf_304]
      rw [R.nb, if_pos (by show (sn s : Int) ≤ sn s; omega), c32_n (by omega) (by omega), ob]; rfl
  · intro N
    simp only [fX12_costOf_193, fX12_costOf_310]
    rw [R.nb, if_pos (by show (sn s : Int) ≤ sn s; omega)]; rfl
theorem r_costOfn (R : RI h s hist x flt) (G : GSc s) (e : h.2 q = some (arr 0 m f)) (hm : sn s ≤ m) (u : h.2 79 = some (arr 0 144 U)) (hU : WokN (sn s) U) (hS : Sym (sn s) U) (hr : RGS (sn s) f) {g : Int} (hg : 0 ≤ g ∧ g ≤ 3) : fX12_costOf 62 q g h = some (cst (sn s) U (sX s) (sK s) g f, h) := by
  have hn := G.2.1
  have hX : Xok (sX s) (sK s) := fun i hi => ⟨G.2.2.2.2.2.2.1 i hi, G.2.2.2.2.2.2.2.2.2.1 i hi⟩
  have hml := hr.mx_le; have hm0 := mx_nonneg f (sn s)
  have hkk : (((mx f (sn s)).toNat : Nat) : Int) = mx f (sn s) := by omega
  unfold fX12_costOf
  rw [R.cb, ob, r_heaps R hn e hm (fun i hi => by have := hr i hi; have := hr.lt hi; omega), ob]
  unfold cst
  by_cases g0 : g = 0
  · subst g0
    rw [if_pos rfl, cfold_s (by omega), if_neg (by omega), Int.zero_add]
    have := r_c16n R hn e hm u hU hS hr hkk
    rw [hkk] at this; exact this
  · rw [if_neg g0]
    by_cases g1 : g = 1
    · subst g1
      rw [if_pos rfl, cfold_s (by omega), if_neg (by omega), Int.zero_add]
      have := r_c156n R hn e hm u hU hr hkk
      rw [hkk] at this; exact this
    · rw [if_neg g1]
      by_cases g2 : g = 2
      · subst g2
        rw [r_c193wn R hn e hm u hU, rwd_eqn hn hU hS hr, if_neg (by omega), cfold_2]
        rfl
      · have g3 : g = 3 := by omega
        subst g3
        rw [r_c193q R hn e hm hX, rqr_eq hn hX (fun a b ha hb => G.2.2.2.2.2.2.2.1 a b (by omega) (by omega)) (fun a b ha hb => G.2.2.2.2.2.2.2.2.2.2.1 a b (by omega) (by omega)) hr, if_pos rfl, cfold_s (by omega)]
        rfl
end
