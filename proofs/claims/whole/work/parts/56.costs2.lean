theorem FU1 : FU = FU - 1 + 1 := by have := FU_ge; omega
def hls (n : Nat) (W : Nat → Int) (p : Nat → Bool) (i : Nat) : Int := if hmd n W p i = -1 then 9223372036854775807 else hsum n W p (hmd n W p i).toNat
section
variable {h : Hp} {q n : Nat} {m k : Int} {P W X K f : Nat → Int} {M : Nat}
theorem sumFrom_ok (S : isSq h q n m P W X K k f) (hn : n ≤ 12) (hW : Wok W) (hM : M < 2147483648) {t : Nat} (ht : t < 12) : fX0_sumFrom q t M h = some (hsum n W M.testBit t, h) := by
  unfold fX0_sumFrom
  refine lpsum (fun N i c => fX0_sumFrom_5 N q t M c i h) (fun b => if M.testBit b then W (12 * t + b) else 0) n 0 0 10000 _ (by omega) (Nat.zero_le _) (fun i hi => by omega) (fun i hi => ?_) ?_ ?_
  · show -10000 ≤ (if M.testBit i then W (12 * t + i) else 0) ∧ (if M.testBit i then W (12 * t + i) else 0) ≤ 10000
    have := hW (12 * t + i) (by omega)
    split <;> omega
  · intro N i c h1 hi h2 h3
    have := hW (12 * t + i) (by omega)
    simp only [fX0_sumFrom_5, fX0_sumFrom_38]
    rw [gI 0 S.1 rfl, ob, if_neg (by omega), if_neg (by omega), has_ok h hM (by omega), ob]
    by_cases e : M.testBit i
    · rw [if_pos e, if_neg one0, co S.1, ob, wayQ S ht (by omega), ob, c64_n (by omega) (by omega), ob, c32_n (by omega) (by omega), ob, if_pos e]; rfl
    · rw [if_neg e, if_pos rfl, c32_n (by omega) (by omega), ob, if_neg e, Int.add_zero]; rfl
  · intro N
    simp only [fX0_sumFrom_5, fX0_sumFrom_44]
    rw [gI 0 S.1 rfl, ob, if_pos (by omega), Int.zero_add]; rfl
theorem sumFrom_no (S : isSq h q n m P W X K k f) (hn : n ≤ 12) (M : Int) : fX0_sumFrom q (-1) M h = some (0, h) := by
  unfold fX0_sumFrom
  rw [FU1]
  simp only [fX0_sumFrom_5, fX0_sumFrom_44]
  rw [gI 0 S.1 rfl, ob, if_pos (by omega : (-1 : Int) < 0)]
  split <;> rfl
theorem reach_ok (S : isSq h q n m P W X K k f) (hW : Wok W) (hM : M < 2147483648) {t b : Nat} (ht : t < 12) (hb : b ≤ 12) : fX0_reach q t M b h = some (hrch W M.testBit t b, h) := by
  unfold fX0_reach
  refine lpmax (fun N i c => fX0_reach_6 N q t M b c i h) (fun j => if M.testBit j then W (12 * t + j) else 0) b 0 10000 _ (by omega) (Nat.zero_le _) (by omega) (fun i hi => by omega) (fun i hi => ?_) ?_ ?_
  · show (if M.testBit i then W (12 * t + i) else 0) ≤ 10000
    have := hW (12 * t + i) (by omega)
    split <;> omega
  · intro N i c h1 hi h2 h3
    simp only [fX0_reach_6, fX0_reach_35]
    rw [if_neg (by omega), has_ok h hM (by omega), ob]
    by_cases e : M.testBit i
    · rw [if_pos e, if_neg one0, co S.1, ob, wayQ S ht (by omega), ob, c32_n (by omega) (by omega), ob, if_pos e]; rfl
    · rw [if_neg e, if_pos rfl, c32_n (by omega) (by omega), ob, if_neg e, max_0 h2]; rfl
  · intro N
    simp only [fX0_reach_6, fX0_reach_41]
    rw [if_pos (by omega)]; rfl
theorem width_ok (S : isSq h q n m P W X K k f) (hn1 : 1 ≤ n) (hn : n ≤ 12) (hW : Wok W) (hM : M < 2147483648) : fX0_width q M h = some (hwd n W M.testBit, h) := by
  unfold fX0_width
  refine lpmax (fun N i c => fX0_width_4 N q M c i h) (fun a => if M.testBit a then hrch W M.testBit a a else 0) n 1 10000 _ (by omega) hn1 (by omega) (fun i hi => ?_) (fun i hi => ?_) ?_ ?_
  · have : i = 0 := by omega
    subst this
    show (if M.testBit 0 then hrch W M.testBit 0 0 else 0) ≤ 0
    split
    · exact Int.le_refl 0
    · omega
  · show (if M.testBit i then hrch W M.testBit i i else 0) ≤ 10000
    have := hrch_bd hW M.testBit (t := i) (b := i) (by omega) (by omega)
    split <;> omega
  · intro N i c h1 hi h2 h3
    simp only [fX0_width_4, fX0_width_32]
    rw [gI 0 S.1 rfl, ob, if_neg (by omega), has_ok h hM (by omega), ob]
    by_cases e : M.testBit i
    · rw [if_pos e, if_neg one0, reach_ok S hW hM (by omega) (by omega), ob, c32_n (by omega) (by omega), ob, if_pos e]; rfl
    · rw [if_neg e, if_pos rfl, c32_n (by omega) (by omega), ob, if_neg e, max_0 h2]; rfl
  · intro N
    simp only [fX0_width_4, fX0_width_38]
    rw [gI 0 S.1 rfl, ob, if_pos (by omega)]; rfl
theorem spread_in (S : isSq h q n m P W X K k f) (hW : Wok W) (hM : M < 2147483648) (Kk : Nat → Int → Int → Int → Int → Hp → Option (Int × Hp)) {a : Nat} (ha : a < 12) (c sz : Int) (h0 : 0 ≤ c) (h1 : c ≤ 100000000000) : fX0_spread_35 Kk FU q M c sz a 0 h = fX0_spread_76 Kk q M (c + hsq1 W M.testBit a) sz a h := by
  refine lpsum (fun N i c => fX0_spread_35 Kk N q M c sz a i h) (fun b => if M.testBit b then W (12 * a + b) * W (12 * a + b) else 0) a 0 c 100000000 _ (by omega) (Nat.zero_le _) (fun i hi => by omega) (fun i hi => ?_) ?_ ?_
  · show -100000000 ≤ (if M.testBit i then W (12 * a + i) * W (12 * a + i) else 0) ∧ (if M.testBit i then W (12 * a + i) * W (12 * a + i) else 0) ≤ 100000000
    have := sq_bd (hW (12 * a + i) (by omega))
    split <;> omega
  · intro N i c' h1 hi h2 h3
    have := sq_bd (hW (12 * a + i) (by omega))
    simp only [fX0_spread_35, fX0_spread_70]
    rw [if_neg (by omega), has_ok h hM (by omega), ob]
    by_cases e : M.testBit i
    · rw [if_pos e, if_neg one0, co S.1, ob, wayQ S ha (by omega), ob]
      simp only []
      rw [c64_n (by omega) (by omega), ob, c32_n (by omega) (by omega), ob, if_pos e]; rfl
    · rw [if_neg e, if_pos rfl, c32_n (by omega) (by omega), ob, if_neg e, Int.add_zero]; rfl
  · intro N
    simp only [fX0_spread_35]
    rw [if_pos (by omega)]; rfl
theorem spread_ok (S : isSq h q n m P W X K k f) (hn : n ≤ 12) (hW : Wok W) (hM : M < 2147483648) : fX0_spread q M h = some (if hct n M.testBit = 0 then 0 else hsq n W M.testBit * 27720 / hct n M.testBit, h) := by
  unfold fX0_spread
  refine lp (fun N i (s : Int × Int) => fX0_spread_8 N q M s.1 s.2 i h) (fun i s => s.1 = hsq i W M.testBit ∧ s.2 = hct i M.testBit) n (fun r => r = some (if hct n M.testBit = 0 then 0 else hsq n W M.testBit * 27720 / hct n M.testBit, h)) ?_ ?_ FU 0 (0, 0) (Nat.zero_le _) (FU_lt (by omega)) ⟨rfl, rfl⟩
  · intro N i ⟨c, z⟩ hi ⟨h1, h2⟩
    have h1 : c = hsq i W M.testBit := h1
    have h2 : z = hct i M.testBit := h2
    have b1 := hsq_bd (n := i) (by omega) hW M.testBit; have b2 := hct_bd i M.testBit
    simp only [fX0_spread_8, fX0_spread_76]
    rw [gI 0 S.1 rfl, ob, if_neg (by omega), has_ok h hM (by omega), ob]
    by_cases e : M.testBit i
    · refine ⟨(c + hsq1 W M.testBit i, z + 1), ⟨?_, ?_⟩, ?_⟩
      · simp only [hsq, sumN, if_pos e]; rw [h1]; rfl
      · simp only [hct, sumN, if_pos e]; rw [h2]; rfl
      · rw [if_pos e, if_neg one0, c32_n (by omega) (by omega), ob, spread_in S hW hM _ (by omega) _ _ (by omega) (by omega)]
        simp only [fX0_spread_76]
        rw [c32_n (by omega) (by omega), ob]; rfl
    · refine ⟨(c, z), ⟨?_, ?_⟩, ?_⟩
      · simp only [hsq, sumN, if_neg e]; rw [h1, Int.add_zero]; rfl
      · simp only [hct, sumN, if_neg e]; rw [h2, Int.add_zero]; rfl
      · rw [if_neg e, if_pos rfl, c32_n (by omega) (by omega), ob]; rfl
  · intro N ⟨c, z⟩ ⟨h1, h2⟩
    have h1 : c = hsq n W M.testBit := h1
    have h2 : z = hct n M.testBit := h2
    have b1 := hsq_bd hn hW M.testBit; have b2 := hct_bd n M.testBit
    simp only [fX0_spread_8, fX0_spread_82, fX0_spread_100]
    rw [gI 0 S.1 rfl, ob, if_pos (by omega), h1, h2]
    by_cases e : hct n M.testBit = 0
    · rw [if_pos e, if_pos e]
    · rw [if_neg e, if_neg e, show cnz (hct n M.testBit) = some () from if_neg e, ob, lDiv_n ⟨by omega, by omega⟩ ⟨by omega, by omega⟩]
theorem middleOf_ok (S : isSq h q n m P W X K k f) (hn : n ≤ 12) (hW : Wok W) (hM : M < 2147483648) : fX0_middleOf q M h = some (hmd n W M.testBit n, h) := by
  unfold fX0_middleOf
  refine lp (fun N i (s : Int × Int) => fX0_middleOf_9 N q M s.1 s.2 i h) (fun i s => s.1 = hmd n W M.testBit i ∧ s.2 = hls n W M.testBit i) n (fun r => r = some (hmd n W M.testBit n, h)) ?_ ?_ FU 0 (-1, 9223372036854775807) (Nat.zero_le _) (FU_lt (by omega)) ⟨rfl, rfl⟩
  · intro N i ⟨c, z⟩ hi ⟨h1, h2⟩
    have h1 : c = hmd n W M.testBit i := h1
    have h2 : z = if hmd n W M.testBit i = -1 then 9223372036854775807 else hsum n W M.testBit (hmd n W M.testBit i).toNat := h2
    have hb := hsum_bd hn hW M.testBit (t := i) (by omega)
    simp only [fX0_middleOf_9, fX0_middleOf_49, lCmp_ge]
    rw [gI 0 S.1 rfl, ob, if_neg (by omega), has_ok h hM (by omega), ob]
    by_cases e : M.testBit i
    · rw [if_pos e, if_neg one0, sumFrom_ok S hn hW hM (by omega), ob]
      have hs : hmd n W M.testBit (i + 1) = if hmd n W M.testBit i = -1 ∨ hsum n W M.testBit i < hsum n W M.testBit (hmd n W M.testBit i).toNat then (i : Int) else hmd n W M.testBit i := by
        show (if M.testBit i then _ else _) = _
        rw [if_pos e]
      by_cases e1 : hmd n W M.testBit i = -1
      · rw [if_pos e1] at h2
        rw [if_pos (Or.inl e1)] at hs
        refine ⟨(i, hsum n W M.testBit i), ⟨hs.symm, ?_⟩, ?_⟩
        · rw [hls, hs, if_neg (by omega)]; rfl
        · rw [if_neg (show ¬ z ≤ hsum n W M.testBit i by omega), c32_n (by omega) (by omega), ob]; rfl
      · rw [if_neg e1] at h2
        by_cases e2 : hsum n W M.testBit i < hsum n W M.testBit (hmd n W M.testBit i).toNat
        · rw [if_pos (Or.inr e2)] at hs
          refine ⟨(i, hsum n W M.testBit i), ⟨hs.symm, ?_⟩, ?_⟩
          · rw [hls, hs, if_neg (by omega)]; rfl
          · rw [if_neg (show ¬ z ≤ hsum n W M.testBit i by omega), c32_n (by omega) (by omega), ob]; rfl
        · rw [if_neg (by intro y; rcases y with y | y; exact e1 y; exact e2 y)] at hs
          refine ⟨(c, z), ⟨h1.trans hs.symm, ?_⟩, ?_⟩
          · rw [hls, hs, if_neg e1]; exact h2
          · rw [if_pos (show z ≤ hsum n W M.testBit i by omega), c32_n (by omega) (by omega), ob]; rfl
    · have hs : hmd n W M.testBit (i + 1) = hmd n W M.testBit i := by
        show (if M.testBit i then _ else _) = _
        rw [if_neg e]
      refine ⟨(c, z), ⟨h1.trans hs.symm, by rw [hls, hs]; exact h2⟩, ?_⟩
      rw [if_neg e, if_pos rfl, c32_n (by omega) (by omega), ob]; rfl
  · intro N ⟨c, z⟩ ⟨h1, h2⟩
    simp only [fX0_middleOf_9, fX0_middleOf_55]
    rw [gI 0 S.1 rfl, ob, if_pos (by omega)]
    rw [show c = hmd n W M.testBit n from h1]
theorem quar_in (S : isSq h q n m P W X K k f) (hX : Xok X K) (hM : M < 2147483648) (Kk : Nat → Int → Int → Int → Hp → Option (Int × Hp)) {a : Nat} (h1a : 1 ≤ a) (ha : a < 12) (c : Int) (h0 : -1000000 ≤ c) (h1 : c ≤ 1000000) : fX0_quarrels_17 Kk FU q M c a 0 h = fX0_quarrels_83 Kk q M (c + if M.testBit a then hqr1 X K M.testBit a else 0) a h := by
  by_cases ea : M.testBit a
  · rw [if_pos ea]
    refine lpsum (fun N i c => fX0_quarrels_17 Kk N q M c a i h) (fun b => if M.testBit b then qrl X K (12 * a + b) else 0) a 0 c 1000 _ (by omega) (Nat.zero_le _) (fun i hi => by omega) (fun i hi => ?_) ?_ ?_
    · show -1000 ≤ (if M.testBit i then qrl X K (12 * a + i) else 0) ∧ (if M.testBit i then qrl X K (12 * a + i) else 0) ≤ 1000
      have := qrl_bd hX (i := 12 * a + i) (by omega)
      split <;> omega
    · intro N i c' h1 hi h2 h3
      have hx := (hX (12 * a + i) (by omega)).1
      simp only [fX0_quarrels_17, fX0_quarrels_77, fX0_quarrels_75]
      rw [if_neg (by omega), has_ok h hM (by omega), ob, if_pos ea, if_neg one0, has_ok h hM (by omega), ob]
      by_cases e : M.testBit i
      · rw [if_pos e, if_neg one0, co S.1, ob, weightQ S ha (by omega), ob, show ∀ z : Int, cob (z, h).2 6 q = some () from fun z => co S.1, ob, likeQ S ha (by omega), ob]
        by_cases e2 : K (12 * a + i) = 1
        · rw [if_pos e2]
          simp only []
          rw [c32_n (by omega) (by omega), ob, c64_n (by omega) (by omega), ob, c32_n (by omega) (by omega), ob, if_pos e, qrl, if_pos e2]; rfl
        · rw [if_neg e2]
          simp only []
          rw [c64_n (by omega) (by omega), ob, c32_n (by omega) (by omega), ob, if_pos e, qrl, if_neg e2]; rfl
      · rw [if_neg e, if_pos rfl, c32_n (by omega) (by omega), ob, if_neg e, Int.add_zero]; rfl
    · intro N
      simp only [fX0_quarrels_17]
      rw [if_pos (by omega)]; rfl
  · rw [if_neg ea, FU1, Int.add_zero]
    simp only [fX0_quarrels_17]
    rw [if_neg (by omega), has_ok h hM (by omega), ob, if_neg ea, if_pos rfl]
theorem quarrels_ok (S : isSq h q n m P W X K k f) (hn1 : 1 ≤ n) (hn : n ≤ 12) (hX : Xok X K) (hM : M < 2147483648) : fX0_quarrels q M h = some (hqr n X K M.testBit, h) := by
  unfold fX0_quarrels
  refine lpsum (fun N i c => fX0_quarrels_5 N q M c i h) (fun a => if M.testBit a then hqr1 X K M.testBit a else 0) n 1 0 12000 _ (by omega) hn1 (fun i hi => ?_) (fun i hi => ?_) ?_ ?_
  · have : i = 0 := by omega
    subst this
    show (if M.testBit 0 then hqr1 X K M.testBit 0 else 0) = 0
    split <;> rfl
  · show -12000 ≤ (if M.testBit i then hqr1 X K M.testBit i else 0) ∧ (if M.testBit i then hqr1 X K M.testBit i else 0) ≤ 12000
    have := hqr1_bd hX M.testBit (a := i) (by omega)
    split <;> omega
  · intro N i c h1 hi h2 h3
    simp only [fX0_quarrels_5]
    rw [gI 0 S.1 rfl, ob, if_neg (by omega), quar_in S hX hM _ h1 (by omega) _ (by omega) (by omega)]
    simp only [fX0_quarrels_83]
    rw [c32_n (by omega) (by omega), ob]; rfl
  · intro N
    simp only [fX0_quarrels_5, fX0_quarrels_89]
    rw [gI 0 S.1 rfl, ob, if_pos (by omega), Int.zero_add]; rfl
theorem ofHeap_ok (S : isSq h q n m P W X K k f) (hn1 : 1 ≤ n) (hn : n ≤ 12) (hW : Wok W) (hX : Xok X K) (hM : M < 2147483648) (g : Int) : fX0_ofHeap q g M h = some (hco n W X K g M.testBit, h) := by
  unfold fX0_ofHeap hco
  by_cases g0 : g = 0
  · rw [if_pos g0, if_pos g0, spread_ok S hn hW hM, ob]
  · rw [if_neg g0, if_neg g0]
    by_cases g1 : g = 1
    · rw [if_pos g1, if_pos g1, middleOf_ok S hn hW hM, ob]
      simp only []
      by_cases e : hmd n W M.testBit n = -1
      · rw [if_pos e, e, sumFrom_no S hn, ob]
      · rw [if_neg e]
        have hm := hmd_in n W M.testBit n
        have e2 : hmd n W M.testBit n = (((hmd n W M.testBit n).toNat : Nat) : Int) := by omega
        have := sumFrom_ok S hn hW hM (t := (hmd n W M.testBit n).toNat) (by omega)
        rw [← e2] at this
        rw [this, ob]
    · rw [if_neg g1, if_neg g1]
      by_cases g2 : g = 2
      · rw [if_pos g2, if_pos g2, width_ok S hn1 hn hW hM, ob]
      · rw [if_neg g2, if_neg g2, quarrels_ok S hn1 hn hX hM, ob]
theorem ground_ok (S : isSq h q n m P W X K k f) (hn1 : 1 ≤ n) (hn : n ≤ 12) (hX : Xok X K) (g : Int) : fX0_ground q g h = some (if g = 3 then grd n X K else 0, h) := by
  unfold fX0_ground
  by_cases g3 : g = 3
  · rw [if_pos g3]
    refine lpsum (fun N i c => fX0_ground_5 N q g c i h) (fun a => sumN a (fun b => K (12 * a + b) * X (12 * a + b))) n 1 0 12000 _ (by omega) hn1 (fun i hi => ?_) (fun i hi => ?_) ?_ ?_
    · have : i = 0 := by omega
      subst this; rfl
    · have h1 := sumN_bd (n := i) (F := fun b => K (12 * i + b) * X (12 * i + b)) (B := 1000) (fun j hj => by have := kx_bd hX (i := 12 * i + j) (by omega); exact ⟨by show -1000 ≤ K (12 * i + j) * X (12 * i + j); omega, this.2⟩)
      exact ⟨by show -12000 ≤ sumN i _; omega, by show sumN i _ ≤ 12000; omega⟩
    · intro N i c h1 hi h2 h3
      simp only [fX0_ground_5]
      rw [gI 0 S.1 rfl, ob, if_neg (by omega), if_pos g3]
      refine lpsum (fun N' j c' => fX0_ground_22 (fX0_ground_5 N) N' q g c' i j h) (fun b => K (12 * i + b) * X (12 * i + b)) i 0 c 1000 _ (by omega) (Nat.zero_le _) (fun j hj => by omega) (fun j hj => ?_) ?_ ?_
      · have := kx_bd hX (i := 12 * i + j) (by omega)
        exact ⟨by show -1000 ≤ K (12 * i + j) * X (12 * i + j); omega, this.2⟩
      · intro N' j c' h4 hj h5 h6
        have := kx_bd hX (i := 12 * i + j) (by omega)
        simp only [fX0_ground_22]
        rw [if_neg (by omega), co S.1, ob, likeQ S (by omega) (by omega), ob, show ∀ z : Int, cob (z, h).2 6 q = some () from fun z => co S.1, ob, weightQ S (by omega) (by omega), ob]
        simp only []
        rw [c32_n (by omega) (by omega), ob, c64_n (by omega) (by omega), ob, c32_n (by omega) (by omega), ob]; rfl
      · intro N'
        simp only [fX0_ground_22, fX0_ground_56]
        rw [if_pos (by omega), c32_n (by omega) (by omega), ob]; rfl
    · intro N
      simp only [fX0_ground_5, fX0_ground_62]
      rw [gI 0 S.1 rfl, ob, if_pos (by omega), Int.zero_add]; rfl
  · rw [if_neg g3, FU1]
    simp only [fX0_ground_5, fX0_ground_62]
    rw [gI 0 S.1 rfl, ob, if_neg g3]; split <;> rfl
end
