theorem lpmax' {β : Type} (F : Nat → Nat → Int → Option β) (G : Nat → Int) (m i0 : Nat) (c0 B : Int) (r : Option β) (hm : m ≤ 1000000) (hi0 : i0 ≤ m) (hB : 0 ≤ B) (h0 : 0 ≤ c0) (h0B : c0 ≤ B) (hz : ∀ i, i < i0 → G i ≤ 0) (hG : ∀ i, i < m → G i ≤ B)
    (step : ∀ N i c, i0 ≤ i → i < m → 0 ≤ c → c ≤ B → F (N + 1) i c = F N (i + 1) (max c (G i))) (fin : ∀ N, F (N + 1) m (max c0 (maxN m G)) = r) : F FU i0 c0 = r := by
  refine lp F (fun i c => i0 ≤ i ∧ c = max c0 (maxN i G)) m (fun o => o = r) ?_ ?_ FU i0 c0 hi0 (FU_lt (by omega)) ⟨Nat.le_refl _, ?_⟩
  · intro N i c hi ⟨h1, h2⟩
    have hb := maxN_le (n := i) (F := G) hB (fun j hj => hG j (by omega))
    have hb2 := maxN_nonneg i G
    exact ⟨max c (G i), ⟨by omega, by simp only [maxN]; rw [h2]; omega⟩, step N i c h1 hi (by omega) (by omega)⟩
  · intro N c ⟨_, h2⟩
    rw [h2]; exact fin N
  · have h1 := maxN_le (n := i0) (F := G) (c := 0) (by omega) hz
    have h2 := maxN_nonneg i0 G
    omega
section
variable {h : Hp} {s : Scn} {hist : List Scn} {x : Aux} {flt : Int} {q m : Nat} {f U : Nat → Int}
theorem r_sumTo (R : RI h s hist x flt) (hn : sn s ≤ 12) (e : h.2 q = some (arr 0 m f)) (hm : sn s ≤ m) (u : h.2 79 = some (arr 0 144 U)) (hU : Wok U) (v : Int) {t : Nat} (ht : t < 12) : fX12_sumTo 62 q v t h = some (hsum (sn s) U (pv f v) t, h) := by
  obtain ⟨pa, fp, sm, o⟩ := R.obj
  unfold fX12_sumTo
  refine lpsum (fun N i c => fX12_sumTo_6 N 62 q v t c i h) (fun b => if pv f v b then U (12 * t + b) else 0) (sn s) 0 0 10000 _ (by omega) (Nat.zero_le _) (fun i hi => by omega) (fun i hi => ?_) ?_ ?_
  · show -10000 ≤ (if pv f v i then U (12 * t + i) else 0) ∧ (if pv f v i then U (12 * t + i) else 0) ≤ 10000
    have := hU (12 * t + i) (by omega)
    split <;> omega
  · intro N i c h1 hi h2 h3
    have := hU (12 * t + i) (by omega)
    simp only [fX12_sumTo_6, fX12_sumTo_40]
    rw [R.nb, if_neg (by show ¬ (sn s : Int) ≤ i; omega), ald_of i e rfl (by omega), ob]
    by_cases ev : f i = v
    · rw [if_pos ev, gR 23 o rfl, ob, ald_of (12 * t + i) u (by omega) (by omega), ob, c32_n (by omega) (by omega), ob, c32_n (by omega) (by omega), ob, if_pos (show pv f v i = true by simp [pv, ev])]; rfl
    · rw [if_neg ev, c32_n (by omega) (by omega), ob, if_neg (show ¬ pv f v i = true by simp [pv, ev]), Int.add_zero]; rfl
  · intro N
    simp only [fX12_sumTo_6, fX12_sumTo_46]
    rw [R.nb, if_pos (by show (sn s : Int) ≤ sn s; omega), Int.zero_add]; rfl
theorem r_middleOf (R : RI h s hist x flt) (hn : sn s ≤ 12) (e : h.2 q = some (arr 0 m f)) (hm : sn s ≤ m) (u : h.2 79 = some (arr 0 144 U)) (hU : Wok U) (v : Int) : fX12_middleOf 62 q v h = some (hmd (sn s) U (pv f v) (sn s), h) := by
  unfold fX12_middleOf
  refine lp (fun N i (c : Int) => fX12_middleOf_5 N 62 q v c i h) (fun i c => c = hmd (sn s) U (pv f v) i) (sn s) (fun r => r = some (hmd (sn s) U (pv f v) (sn s), h)) ?_ ?_ FU 0 (-1) (Nat.zero_le _) (FU_lt (by omega)) rfl
  · intro N i c hi hc
    refine ⟨_, rfl, ?_⟩
    simp only [fX12_middleOf_5, fX12_middleOf_48, fX12_middleOf_51]
    rw [R.nb, if_neg (by show ¬ (sn s : Int) ≤ i; omega), ald_of i e rfl (by omega), ob]
    by_cases ev : f i = v
    · have hp : pv f v i = true := by simp [pv, ev]
      rw [if_pos ev]
      simp only [hmd]
      rw [if_pos hp, ← hc]
      have hi2 := hmd_in (sn s) U (pv f v) i
      by_cases e1 : c = -1
      · rw [if_pos e1, c32_n (by omega) (by omega), ob, if_pos (Or.inl e1)]; rfl
      · have ec : c = ((c.toNat : Nat) : Int) := by omega
        have hs := r_sumTo R hn e hm u hU v (t := c.toNat) (by omega)
        rw [← ec] at hs
        rw [if_neg e1, R.cb, ob, r_sumTo R hn e hm u hU v (t := i) (by omega), ob]
        simp only []
        rw [R.cb, ob, hs, ob]
        by_cases e2 : hsum (sn s) U (pv f v) i < hsum (sn s) U (pv f v) c.toNat
        · rw [if_neg (by show ¬ hsum (sn s) U (pv f v) c.toNat ≤ hsum (sn s) U (pv f v) i; omega), c32_n (by omega) (by omega), ob, if_pos (Or.inr e2)]; rfl
        · rw [if_pos (by show hsum (sn s) U (pv f v) c.toNat ≤ hsum (sn s) U (pv f v) i; omega), c32_n (by omega) (by omega), ob, if_neg (by intro y; rcases y with y | y; exact e1 y; exact e2 y)]; rfl
    · have hp : ¬ pv f v i = true := by simp [pv, ev]
      rw [if_neg ev, c32_n (by omega) (by omega), ob]
      simp only [hmd]
      rw [if_neg hp, hc]; rfl
  · intro N c hc
    simp only [fX12_middleOf_5, fX12_middleOf_57]
    rw [R.nb, if_pos (by show (sn s : Int) ≤ sn s; omega), hc]
/-- squares over the pairs of a heap, the greater one behind -/
def rsq1 (n : Nat) (U : Nat → Int) (p : Nat → Bool) (a : Nat) : Int := sumN n (fun b => if a < b then (if p b then U (12 * a + b) * U (12 * a + b) else 0) else 0)
theorem rsq1_bd {n : Nat} {U : Nat → Int} (hn : n ≤ 12) (hU : Wok U) (p : Nat → Bool) {a : Nat} (ha : a < 12) : 0 ≤ rsq1 n U p a ∧ rsq1 n U p a ≤ 1200000000 := by
  have h1 : 0 ≤ rsq1 n U p a := sumN_nonneg (fun i hi => by
    have := sq_bd (hU (12 * a + i) (by omega))
    split <;> (try split) <;> omega)
  have h2 : rsq1 n U p a ≤ n * 100000000 := sumN_le (fun i hi => by
    have := sq_bd (hU (12 * a + i) (by omega))
    split <;> (try split) <;> omega)
  omega
def rsq (n : Nat) (U : Nat → Int) (p : Nat → Bool) (i : Nat) : Int := sumN i (fun a => if p a then rsq1 n U p a else 0)
theorem rsq_bd {n i : Nat} {U : Nat → Int} (hn : n ≤ 12) (hi : i ≤ 12) (hU : Wok U) (p : Nat → Bool) : 0 ≤ rsq n U p i ∧ rsq n U p i ≤ 14400000000 := by
  have h1 : 0 ≤ rsq n U p i := sumN_nonneg (fun j hj => by
    have := rsq1_bd hn hU p (a := j) (by omega)
    split <;> omega)
  have h2 : rsq n U p i ≤ i * 1200000000 := sumN_le (fun j hj => by
    have := rsq1_bd hn hU p (a := j) (by omega)
    split <;> omega)
  omega
def Sym (n : Nat) (U : Nat → Int) : Prop := ∀ a b, a < n → b < n → U (12 * a + b) = U (12 * b + a)
theorem rsq_eq {n : Nat} {U : Nat → Int} (hs : Sym n U) (p : Nat → Bool) : rsq n U p n = hsq n U p := by
  have e1 : rsq n U p n = sumN n (fun a => sumN n (fun b => if a < b then (if p a then (if p b then U (12 * a + b) * U (12 * a + b) else 0) else 0) else 0)) := sumN_congr (fun a ha => by
    by_cases z : p a
    · rw [if_pos z]; exact sumN_congr (fun b hb => by rw [if_pos z])
    · rw [if_neg z]; exact (sumN_zero (fun b hb => by rw [if_neg z]; split <;> rfl)).symm)
  rw [e1, sumN_tri (fun a b => if p a then (if p b then U (12 * a + b) * U (12 * a + b) else 0) else 0)]
  refine sumN_congr (fun b hb => ?_)
  by_cases z : p b
  · rw [if_pos z]
    exact sumN_congr (fun a ha => by rw [if_pos z, hs a b (by omega) hb])
  · rw [if_neg z]; exact sumN_zero (fun a ha => by rw [if_neg z]; split <;> rfl)
theorem r_c62 (R : RI h s hist x flt) (hn : sn s ≤ 12) (e : h.2 q = some (arr 0 m f)) (hm : sn s ≤ m) (u : h.2 79 = some (arr 0 144 U)) (hU : Wok U) (K1 : Nat → Nat → Int → Int → Int → Hp → Option (Int × Hp)) (K2 : Nat → Nat → Int → Int → Int → Int → Int → Int → Hp → Option (Int × Hp)) (c3 c5 : Int) (v : Int) (c sz : Int) (h0 : 0 ≤ c) (h1 : c ≤ 100000000000) {a : Nat} (ha : a < sn s) :
    fX12_costOf_62 K1 K2 FU 62 q c3 c5 v c sz a ((a + 1 : Nat) : Int) h = fX12_costOf_120 K1 K2 62 q c3 c5 v (c + rsq1 (sn s) U (pv f v) a) sz a h := by
  obtain ⟨pa, fp, sm, o⟩ := R.obj
  refine lpsum (fun N i c => fX12_costOf_62 K1 K2 N 62 q c3 c5 v c sz a i h) (fun b => if a < b then (if pv f v b then U (12 * a + b) * U (12 * a + b) else 0) else 0) (sn s) (a + 1) c 100000000 _ (by omega) (by omega) (fun i hi => by rw [if_neg (by omega)]) (fun i hi => ?_) ?_ ?_
  · show -100000000 ≤ (if a < i then (if pv f v i then U (12 * a + i) * U (12 * a + i) else 0) else 0) ∧ (if a < i then (if pv f v i then U (12 * a + i) * U (12 * a + i) else 0) else 0) ≤ 100000000
    have := sq_bd (hU (12 * a + i) (by omega))
    split <;> (try split) <;> omega
  · intro N i c' h1 hi h2 h3
    have := sq_bd (hU (12 * a + i) (by omega))
    simp only [fX12_costOf_62, fX12_costOf_114]
    rw [R.nb, if_neg (by show ¬ (sn s : Int) ≤ i; omega), ald_of i e rfl (by omega), ob]
    by_cases ev : f i = v
    · rw [if_pos ev, gR 23 o rfl, ob, ald_of (12 * a + i) u (by omega) (by omega), ob, ob, ald_of (12 * a + i) u (by omega) (by omega), ob, c64_n (by omega) (by omega), ob, c32_n (by omega) (by omega), ob, if_pos (by omega), if_pos (show pv f v i = true by simp [pv, ev])]; rfl
    · rw [if_neg ev, c32_n (by omega) (by omega), ob, if_pos (by omega), if_neg (show ¬ pv f v i = true by simp [pv, ev]), Int.add_zero]; rfl
  · intro N
    simp only [fX12_costOf_62]
    rw [R.nb, if_pos (by show (sn s : Int) ≤ sn s; omega)]; rfl
theorem d27 {z : Int} (h1 : 1 ≤ z) (h2 : z ≤ 12) : z ∣ 27720 := by
  have : z = 1 ∨ z = 2 ∨ z = 3 ∨ z = 4 ∨ z = 5 ∨ z = 6 ∨ z = 7 ∨ z = 8 ∨ z = 9 ∨ z = 10 ∨ z = 11 ∨ z = 12 := by omega
  rcases this with rfl | rfl | rfl | rfl | rfl | rfl | rfl | rfl | rfl | rfl | rfl | rfl <;> decide
theorem hct_pos {n : Nat} {p : Nat → Bool} {j : Nat} (hj : j < n) (hp : p j = true) : 1 ≤ hct n p := by
  induction n with
  | zero => omega
  | succ n ih =>
    have := hct_bd n p
    show 1 ≤ hct n p + (if p n then 1 else 0)
    by_cases e : j = n
    · subst e; rw [if_pos hp]; omega
    · have := ih (by omega); split <;> omega
theorem r_c16 (R : RI h s hist x flt) (hn : sn s ≤ 12) (e : h.2 q = some (arr 0 m f)) (hm : sn s ≤ m) (u : h.2 79 = some (arr 0 144 U)) (hU : Wok U) (hS : Sym (sn s) U) (hr : RGS (sn s) f) {kk : Nat} (hk : (kk : Int) = mx f (sn s)) : fX12_costOf_16 FU 62 q 0 kk 0 h = some (sumN kk (fun v => hco (sn s) U (sX s) (sK s) 0 (pv f v)), h) := by
  have hml := hr.mx_le
  refine lpsum (fun N i c => fX12_costOf_16 N 62 q c kk i h) (fun v => hco (sn s) U (sX s) (sK s) 0 (pv f v)) kk 0 0 1000000000000000 _ (by omega) (Nat.zero_le _) (fun i hi => by omega) (fun i hi => ?_) ?_ ?_
  · unfold hco
    rw [if_pos rfl]
    split
    · omega
    · have h1 := hsq_bd hn hU (pv f i); have h2 := hct_bd (sn s) (pv f i)
      have h3 : 0 ≤ hsq (sn s) U (pv f i) * 27720 / hct (sn s) (pv f i) := Int.ediv_nonneg (by omega) (by omega)
      have h4 : hsq (sn s) U (pv f i) * 27720 / hct (sn s) (pv f i) ≤ hsq (sn s) U (pv f i) * 27720 := Int.ediv_le_self _ (by omega)
      omega
  · intro N v c _ hv h2 h3
    simp only [fX12_costOf_16]
    rw [if_neg (by omega)]
    have in1 : fX12_costOf_32 (fX12_costOf_16 N) FU 62 q c kk v 0 0 0 h = fX12_costOf_126 (fX12_costOf_16 N) 62 q c kk v (rsq (sn s) U (pv f v) (sn s)) (hct (sn s) (pv f v)) h := by
      refine lp (fun N' a (z : Int × Int) => fX12_costOf_32 (fX12_costOf_16 N) N' 62 q c kk v z.1 z.2 a h) (fun a z => z.1 = rsq (sn s) U (pv f v) a ∧ z.2 = hct a (pv f v)) (sn s) (fun r => r = fX12_costOf_126 (fX12_costOf_16 N) 62 q c kk v (rsq (sn s) U (pv f v) (sn s)) (hct (sn s) (pv f v)) h) ?_ ?_ FU 0 (0, 0) (Nat.zero_le _) (FU_lt (by omega)) ⟨rfl, rfl⟩
      · intro N' a ⟨c1, z1⟩ ha ⟨q1, q2⟩
        have q1 : c1 = rsq (sn s) U (pv f v) a := q1
        have q2 : z1 = hct a (pv f v) := q2
        have b1 := rsq_bd hn (i := a) (by omega) hU (pv f v); have b2 := hct_bd a (pv f v)
        simp only [fX12_costOf_32]
        rw [R.nb, if_neg (by show ¬ (sn s : Int) ≤ a; omega), ald_of a e rfl (by omega), ob]
        by_cases ev : f a = v
        · have hp : pv f v a = true := by simp [pv, ev]
          refine ⟨(c1 + rsq1 (sn s) U (pv f v) a, z1 + 1), ⟨?_, ?_⟩, ?_⟩
          · simp only [rsq, sumN, if_pos hp]; rw [q1]; rfl
          · simp only [hct, sumN, if_pos hp]; rw [q2]; rfl
          · rw [if_pos ev, c32_n (by omega) (by omega), ob, c32_n (by omega) (by omega), ob]
            have := r_c62 R hn e hm u hU (fX12_costOf_16 N) (fX12_costOf_32 (fX12_costOf_16 N) N') c kk v c1 (z1 + 1) (by omega) (by omega) ha
            rw [show ((a : Int) + 1) = ((a + 1 : Nat) : Int) from rfl, this]
            simp only [fX12_costOf_120]
            rw [c32_n (by omega) (by omega), ob]; rfl
        · have hp : ¬ pv f v a = true := by simp [pv, ev]
          refine ⟨(c1, z1), ⟨?_, ?_⟩, ?_⟩
          · simp only [rsq, sumN, if_neg hp]; rw [q1, Int.add_zero]; rfl
          · simp only [hct, sumN, if_neg hp]; rw [q2, Int.add_zero]; rfl
          · rw [if_neg ev]
            simp only [fX12_costOf_120]
            rw [c32_n (by omega) (by omega), ob]; rfl
      · intro N' ⟨c1, z1⟩ ⟨q1, q2⟩
        simp only [fX12_costOf_32]
        rw [R.nb, if_pos (by show (sn s : Int) ≤ sn s; omega), show c1 = _ from q1, show z1 = _ from q2]
    rw [in1, rsq_eq hS]
    obtain ⟨j, hj, hjv⟩ := hr.onto v (by omega) (by omega)
    have b1 := hsq_bd hn hU (pv f v); have b2 := hct_bd (sn s) (pv f v)
    have b3 : 1 ≤ hct (sn s) (pv f v) := hct_pos hj (by simp [pv, hjv])
    have eh : hco (sn s) U (sX s) (sK s) 0 (pv f v) = hsq (sn s) U (pv f v) * (27720 / hct (sn s) (pv f v)) := by
      unfold hco
      rw [if_pos rfl, if_neg (by omega), Int.mul_ediv_assoc _ (d27 b3 (by omega))]
    have eb : bDiv 27720 (hct (sn s) (pv f v)) = 27720 / hct (sn s) (pv f v) := by
      obtain ⟨w, hw⟩ := Int.eq_ofNat_of_zero_le b2.1
      rw [hw]
      have := bDiv_n (a := 27720) (b := w) (by omega) (by omega) (by omega)
      rw [show (27720 : Int) = ((27720 : Nat) : Int) from rfl, this]; rfl
    have hb := hco_bd (X := fun _ => 0) (K := fun _ => 0) hn hU (fun i _ => ⟨⟨by show (0 : Int) ≤ 0; omega, by show (0 : Int) ≤ 1000; omega⟩, Or.inl rfl⟩) 0 (pv f v)
    have hb' : hco (sn s) U (fun _ => 0) (fun _ => 0) 0 (pv f v) = hco (sn s) U (sX s) (sK s) 0 (pv f v) := rfl
    rw [hb', eh] at hb
    simp only [fX12_costOf_126]
    rw [show cnz (hct (sn s) (pv f v)) = some () from if_neg (by omega), ob, eb, c64_n (by omega) (by omega), ob, c32_n (by omega) (by omega), ob, eh]; rfl
  · intro N
    simp only [fX12_costOf_16, fX12_costOf_145, fX12_costOf_310]
    rw [if_pos (by omega), Int.zero_add]
end
