theorem sumN_pick {k : Nat} {v : Int} (h0 : 0 ≤ v) (hv : v < k) (T : Nat → Int) : sumN k (fun u => if v = (u : Int) then T u else 0) = T v.toNat := by
  induction k with
  | zero => omega
  | succ k ih =>
    simp only [sumN]
    by_cases e : v = (k : Int)
    · rw [if_pos e, sumN_zero (fun i hi => by rw [if_neg (by omega)])]
      have : v.toNat = k := by omega
      rw [this]; omega
    · rw [if_neg e, ih (by omega)]; omega
theorem ite_and {a b : Prop} [Decidable a] [Decidable b] (x : Int) : (if a then (if b then x else 0) else 0) = if a ∧ b then x else 0 := by
  by_cases h1 : a <;> by_cases h2 : b <;> simp [h1, h2]
/-- quarrels: heap by heap over the ground, or pair by pair -/
def rqr (n : Nat) (X K : Nat → Int) (f : Nat → Int) : Int := sumN n (fun a => sumN n (fun b => if a < b then (if (K (12 * a + b) = 1 ↔ f a = f b) then 0 else X (12 * a + b)) else 0))
theorem rqr_eq {n : Nat} {X K f : Nat → Int} (hn : n ≤ 12) (hX : Xok X K) (sX : Sym n X) (sK : Sym n K) (hr : RGS n f) : rqr n X K f = grd n X K + sumN (mx f n).toNat (fun v => hqr n X K (pv f v)) := by
  have hm0 := mx_nonneg f n
  unfold rqr
  rw [sumN_tri (fun a b => if (K (12 * a + b) = 1 ↔ f a = f b) then 0 else X (12 * a + b))]
  have e1 : sumN (mx f n).toNat (fun v => hqr n X K (pv f v)) = sumN n (fun a => sumN a (fun b => if f a = f b then qrl X K (12 * a + b) else 0)) := by
    have e2 : ∀ v : Nat, hqr n X K (pv f v) = sumN n (fun a => if f a = (v : Int) then sumN a (fun b => if f b = (v : Int) then qrl X K (12 * a + b) else 0) else 0) := by
      intro v
      exact sumN_congr (fun a ha => by
        unfold pv
        by_cases z : f a = (v : Int)
        · simp only [z, decide_true, if_pos]
          exact sumN_congr (fun b hb => by by_cases y : f b = (v : Int) <;> simp [y])
        · simp [z])
    rw [sumN_congr (fun v _ => e2 v), sumN_comm]
    refine sumN_congr (fun a ha => ?_)
    have := hr a ha; have := lt_mx (g := f) ha
    rw [sumN_pick (v := f a) (by omega) (by omega) (fun v => sumN a (fun b => if f b = (v : Int) then qrl X K (12 * a + b) else 0))]
    refine sumN_congr (fun b hb => ?_)
    have e3 : (((f a).toNat : Nat) : Int) = f a := by omega
    rw [e3]
    by_cases y : f a = f b
    · rw [if_pos y, if_pos y.symm]
    · rw [if_neg y, if_neg (fun z => y z.symm)]
  rw [e1]
  unfold grd
  rw [← sumN_add]
  refine sumN_congr (fun a ha => ?_)
  rw [← sumN_add]
  refine sumN_congr (fun b hb => ?_)
  have s1 := sX b a (by omega) ha; have s2 := sK b a (by omega) ha
  have hk := (hX (12 * a + b) (by omega)).2
  show (if (K (12 * b + a) = 1 ↔ f b = f a) then 0 else X (12 * b + a)) = _
  rw [s1, s2]
  unfold qrl
  rcases hk with z | z
  · rw [z]
    by_cases y : f b = f a
    · simp [y]
    · have y' : ¬ f a = f b := fun w => y w.symm
      simp [y, y']
  · rw [z]
    by_cases y : f b = f a
    · simp [y]; omega
    · have y' : ¬ f a = f b := fun w => y w.symm
      simp [y, y']
/-- the widest pair of one heap -/
def rwd (n : Nat) (U : Nat → Int) (f : Nat → Int) : Int := maxN n (fun a => maxN n (fun b => if a < b then (if f a = f b then U (12 * a + b) else 0) else 0))
theorem rwd_eq {n : Nat} {U f : Nat → Int} (hn : n ≤ 12) (hU : Wok U) (hS : Sym n U) (hr : RGS n f) : rwd n U f = maxN (mx f n).toNat (fun v => hwd n U (pv f v)) := by
  have hm0 := mx_nonneg f n
  apply Int.le_antisymm
  · refine maxN_le (maxN_nonneg _ _) (fun a ha => maxN_le (maxN_nonneg _ _) (fun b hb => ?_))
    by_cases h1 : a < b
    · rw [if_pos h1]
      by_cases h2 : f a = f b
      · rw [if_pos h2]
        have hb1 := hr b hb; have hb2 := lt_mx (g := f) hb
        have e3 : (((f b).toNat : Nat) : Int) = f b := by omega
        have t1 : U (12 * b + a) ≤ hrch U (pv f (f b)) b b := by
          have := le_maxN (n := b) (F := fun j => if pv f (f b) j then U (12 * b + j) else 0) h1
          have pa : pv f (f b) a = true := by simp [pv, h2]
          simp only [pa, if_pos] at this
          exact this
        have t2 : hrch U (pv f (f b)) b b ≤ hwd n U (pv f (f b)) := by
          have := le_maxN (n := n) (F := fun a => if pv f (f b) a then hrch U (pv f (f b)) a a else 0) hb
          have pb : pv f (f b) b = true := by simp [pv]
          simp only [pb, if_pos] at this
          exact this
        have t3 := le_maxN (n := (mx f n).toNat) (F := fun v => hwd n U (pv f v)) (i := (f b).toNat) (by omega)
        simp only [e3] at t3
        rw [hS a b ha hb]; omega
      · rw [if_neg h2]; exact maxN_nonneg _ _
    · rw [if_neg h1]; exact maxN_nonneg _ _
  · refine maxN_le (maxN_nonneg _ _) (fun v hv => maxN_le (maxN_nonneg _ _) (fun b hb => ?_))
    by_cases pb : pv f v b = true
    · rw [if_pos pb]
      refine maxN_le (maxN_nonneg _ _) (fun a ha => ?_)
      by_cases pa : pv f v a = true
      · rw [if_pos pa]
        have ea : f a = f b := by simp [pv] at pa pb; omega
        have t1 := le_maxN (n := n) (F := fun b => if a < b then (if f a = f b then U (12 * a + b) else 0) else 0) hb
        simp only [ha, if_pos, ea] at t1
        have t2 := le_maxN (n := n) (F := fun a => maxN n (fun b => if a < b then (if f a = f b then U (12 * a + b) else 0) else 0)) (i := a) (by omega)
        simp only [ea] at t2
        have t3 : maxN n (fun a => maxN n (fun b => if a < b then (if f a = f b then U (12 * a + b) else 0) else 0)) = rwd n U f := rfl
        rw [hS b a hb (by omega)]; omega
      · rw [if_neg pa]; exact maxN_nonneg _ _
    · rw [if_neg pb]; exact maxN_nonneg _ _
section
variable {h : Hp} {s : Scn} {hist : List Scn} {x : Aux} {flt : Int} {q m : Nat} {f U : Nat → Int}
theorem r_c156 (R : RI h s hist x flt) (hn : sn s ≤ 12) (e : h.2 q = some (arr 0 m f)) (hm : sn s ≤ m) (u : h.2 79 = some (arr 0 144 U)) (hU : Wok U) (hr : RGS (sn s) f) {kk : Nat} (hk : (kk : Int) = mx f (sn s)) : fX12_costOf_156 FU 62 q 0 kk 0 h = some (sumN kk (fun v => hco (sn s) U (sX s) (sK s) 1 (pv f v)), h) := by
  have hml := hr.mx_le
  have key : ∀ v : Nat, v < kk → ∃ t : Nat, t < 12 ∧ hmd (sn s) U (pv f v) (sn s) = (t : Int) ∧ hco (sn s) U (sX s) (sK s) 1 (pv f v) = hsum (sn s) U (pv f v) t := by
    intro v hv
    have hmi := hmd_in (sn s) U (pv f v) (sn s)
    obtain ⟨j, hj, hjv⟩ := hr.onto v (by omega) (by omega)
    have pj : pv f v j = true := by simp [pv, hjv]
    have hne : ∀ i, j < i → hmd (sn s) U (pv f v) i ≠ -1 := by
      intro i
      induction i with
      | zero => intro z; omega
      | succ i ih =>
        intro hi
        have hi2 := hmd_in (sn s) U (pv f v) i
        simp only [hmd]
        by_cases z : j = i
        · subst z
          rw [if_pos pj]; split <;> omega
        · have := ih (by omega)
          split
          · split <;> omega
          · exact this
    have h1 := hne (sn s) hj
    refine ⟨(hmd (sn s) U (pv f v) (sn s)).toNat, by omega, by omega, ?_⟩
    unfold hco
    rw [if_neg (by omega), if_pos rfl, if_neg h1]
  refine lpsum (fun N i c => fX12_costOf_156 N 62 q c kk i h) (fun v => hco (sn s) U (sX s) (sK s) 1 (pv f v)) kk 0 0 120000 _ (by omega) (Nat.zero_le _) (fun i hi => by omega) (fun i hi => ?_) ?_ ?_
  · obtain ⟨t, ht, h1, h2⟩ := key i hi
    have := hsum_bd hn hU (pv f i) ht
    exact ⟨by show -120000 ≤ hco (sn s) U (sX s) (sK s) 1 (pv f i); omega, by show hco (sn s) U (sX s) (sK s) 1 (pv f i) ≤ 120000; omega⟩
  · intro N v c _ hv h2 h3
    obtain ⟨t, ht, h4, h5⟩ := key v hv
    have := hsum_bd hn hU (pv f v) ht
    simp only [fX12_costOf_156]
    rw [if_neg (by omega), R.cb, ob, r_middleOf R hn e hm u hU, ob]
    simp only []
    rw [R.cb, ob, h4, r_sumTo R hn e hm u hU v ht, ob, c64_n (by show -9223372036854775808 ≤ c + hsum (sn s) U (pv f v) t; omega) (by show c + hsum (sn s) U (pv f v) t ≤ 9223372036854775807; omega), ob, c32_n (by omega) (by omega), ob, h5]; rfl
  · intro N
    simp only [fX12_costOf_156, fX12_costOf_187, fX12_costOf_310]
    rw [if_pos (by omega), Int.zero_add]
theorem r_c193w (R : RI h s hist x flt) (hn : sn s ≤ 12) (e : h.2 q = some (arr 0 m f)) (hm : sn s ≤ m) (u : h.2 79 = some (arr 0 144 U)) (hU : Wok U) : fX12_costOf_193 FU 62 q 2 0 0 h = some (rwd (sn s) U f, h) := by
  obtain ⟨pa, fp, sm, o⟩ := R.obj
  have hG : ∀ a, a < sn s → ∀ b, b < sn s → (if a < b then (if f a = f b then U (12 * a + b) else 0) else 0) ≤ 10000 := by
    intro a ha b hb
    have := hU (12 * a + b) (by omega)
    split <;> (try split) <;> omega
  refine lpmax (fun N i c => fX12_costOf_193 N 62 q 2 c i h) (fun a => maxN (sn s) (fun b => if a < b then (if f a = f b then U (12 * a + b) else 0) else 0)) (sn s) 0 10000 _ (by omega) (Nat.zero_le _) (by omega) (fun i hi => by omega) (fun i hi => maxN_le (by omega) (hG i hi)) ?_ ?_
  · intro N a c _ ha h2 h3
    simp only [fX12_costOf_193]
    rw [R.nb, if_neg (by show ¬ (sn s : Int) ≤ a; omega), c32_n (by omega) (by omega), ob]
    refine lpmax' (fun N' b c => fX12_costOf_208 (fX12_costOf_193 N) N' 62 q 2 c a b h) (fun b => if a < b then (if f a = f b then U (12 * a + b) else 0) else 0) (sn s) (a + 1) c 10000 _ (by omega) (by omega) (by omega) h2 h3 (fun i hi => by show (if a < i then _ else (0 : Int)) ≤ 0; rw [if_neg (by omega)]; omega) (hG a ha) ?_ ?_
    · intro N' b c' hb0 hb hc0 hc1
      simp only [fX12_costOf_208, fX12_costOf_256, fX12_costOf_298]
      rw [R.nb, if_neg (by show ¬ (sn s : Int) ≤ b; omega), c32_n (by omega) (by omega), ob, if_pos trivial, ald_of a e rfl (by omega), ob, ald_of b e rfl (by omega), ob]
      by_cases ev : f a = f b
      · rw [if_pos ev, gR 23 o rfl, ob, ald_of (12 * a + b) u (by omega) (by omega), ob, if_neg (by omega), c32_n (by omega) (by omega), ob, if_pos (by omega), if_pos ev]; rfl
      · rw [if_neg ev, if_neg (by omega), c32_n (by omega) (by omega), ob, if_pos (by omega), if_neg ev, max_0 hc0]; rfl
    · intro N'
      simp only [fX12_costOf_208, fX12_costOf_304]
      rw [R.nb, if_pos (by show (sn s : Int) ≤ sn s; omega), c32_n (by omega) (by omega), ob]; rfl
  · intro N
    simp only [fX12_costOf_193, fX12_costOf_310]
    rw [R.nb, if_pos (by show (sn s : Int) ≤ sn s; omega)]; rfl
theorem r_c193q (R : RI h s hist x flt) (hn : sn s ≤ 12) (e : h.2 q = some (arr 0 m f)) (hm : sn s ≤ m) (hX : Xok (sX s) (sK s)) : fX12_costOf_193 FU 62 q 3 0 0 h = some (rqr (sn s) (sX s) (sK s) f, h) := by
  obtain ⟨pa, fp, sm, o⟩ := R.obj
  obtain ⟨X, eX, qX⟩ := R.wgt
  obtain ⟨K, eK, qK⟩ := R.lik
  have hG : ∀ a, a < sn s → ∀ b, b < sn s → -1000 ≤ (if a < b then (if (sK s (12 * a + b) = 1 ↔ f a = f b) then 0 else sX s (12 * a + b)) else 0) ∧ (if a < b then (if (sK s (12 * a + b) = 1 ↔ f a = f b) then 0 else sX s (12 * a + b)) else 0) ≤ 1000 := by
    intro a ha b hb
    have := hX (12 * a + b) (by omega)
    split <;> (try split) <;> omega
  refine lpsum (fun N i c => fX12_costOf_193 N 62 q 3 c i h) (fun a => sumN (sn s) (fun b => if a < b then (if (sK s (12 * a + b) = 1 ↔ f a = f b) then 0 else sX s (12 * a + b)) else 0)) (sn s) 0 0 12000 _ (by omega) (Nat.zero_le _) (fun i hi => by omega) (fun i hi => ?_) ?_ ?_
  · have h1 := sumN_bd (n := sn s) (B := 1000) (hG i hi)
    exact ⟨by show -12000 ≤ sumN (sn s) _; omega, by show sumN (sn s) _ ≤ 12000; omega⟩
  · intro N a c _ ha h2 h3
    simp only [fX12_costOf_193]
    rw [R.nb, if_neg (by show ¬ (sn s : Int) ≤ a; omega), c32_n (by omega) (by omega), ob]
    refine lpsum (fun N' b c => fX12_costOf_208 (fX12_costOf_193 N) N' 62 q 3 c a b h) (fun b => if a < b then (if (sK s (12 * a + b) = 1 ↔ f a = f b) then 0 else sX s (12 * a + b)) else 0) (sn s) (a + 1) c 1000 _ (by omega) (by omega) (fun i hi => by rw [if_neg (by omega)]) (hG a ha) ?_ ?_
    · intro N' b c' hb0 hb hc0 hc1
      have hx := hX (12 * a + b) (by omega)
      simp only [fX12_costOf_208, fX12_costOf_256, fX12_costOf_284, fX12_costOf_298]
      rw [R.nb, if_neg (by show ¬ (sn s : Int) ≤ b; omega), c32_n (by omega) (by omega), ob, if_neg (by omega), if_pos trivial, gR 4 o rfl, ob, ald_of (12 * a + b) eK (by omega) (by omega), ob, ald_of a e rfl (by omega), ob, ald_of b e rfl (by omega), ob, qK _ (by omega), if_pos (show a < b by omega)]
      have fin : ∀ d : Int, (c32 ((b : Int) + 1)).bind (fun _ => fX12_costOf_208 (fX12_costOf_193 N) N' 62 q 3 (c' + d) a ((b : Int) + 1) h) = fX12_costOf_208 (fX12_costOf_193 N) N' 62 q 3 (c' + d) a ((b + 1 : Nat) : Int) h := by
        intro d; rw [c32_n (by omega) (by omega), ob]; rfl
      have ad : (getR h 11 62 3).bind (fun v2 => (ald h 0 v2 (12 * (a : Int) + b)).bind fun v3 => (c64 (c' + v3)).bind fun _ => (c32 ((b : Int) + 1)).bind fun _ => fX12_costOf_208 (fX12_costOf_193 N) N' 62 q 3 (c' + v3) a ((b : Int) + 1) h) = fX12_costOf_208 (fX12_costOf_193 N) N' 62 q 3 (c' + sX s (12 * a + b)) a ((b + 1 : Nat) : Int) h := by
        rw [gR 3 o rfl, ob, ald_of (12 * a + b) eX (by omega) (by omega), ob, qX _ (by omega), c64_n (by omega) (by omega), ob, fin]
      have f0 := fin 0
      rw [Int.add_zero] at f0
      by_cases ev : f a = f b
      · rw [if_pos ev]
        by_cases ek : sK s (12 * a + b) = 1
        · rw [if_pos ek, f0, if_pos ⟨fun _ => ev, fun _ => ek⟩, Int.add_zero]
        · rw [if_neg ek, ad, if_neg (fun z => ek (z.mpr ev))]
      · rw [if_neg ev]
        by_cases ek : sK s (12 * a + b) = 0
        · rw [if_pos ek, f0, if_pos ⟨fun z => by omega, fun z => absurd z ev⟩, Int.add_zero]
        · rw [if_neg ek, ad, if_neg (fun z => ev (z.mp (by omega)))]
    · intro N'
      simp only [fX12_costOf_208, fX12_costOf_304]
      rw [R.nb, if_pos (by show (sn s : Int) ≤ sn s; omega), c32_n (by omega) (by omega), ob]; rfl
  · intro N
    simp only [fX12_costOf_193, fX12_costOf_310]
    rw [R.nb, if_pos (by show (sn s : Int) ≤ sn s; omega), Int.zero_add]; rfl
/-- what the reference tells as a row's cost -/
theorem r_costOf (R : RI h s hist x flt) (G : GSc s) (e : h.2 q = some (arr 0 m f)) (hm : sn s ≤ m) (u : h.2 79 = some (arr 0 144 U)) (hU : Wok U) (hS : Sym (sn s) U) (hr : RGS (sn s) f) {g : Int} (hg : 0 ≤ g ∧ g ≤ 3) : fX12_costOf 62 q g h = some (cst (sn s) U (sX s) (sK s) g f, h) := by
  have hn := G.2.1
  have hX : Xok (sX s) (sK s) := fun i hi => ⟨G.2.2.2.2.2.2.1 i hi, G.2.2.2.2.2.2.2.2.2.1 i hi⟩
  have hml := hr.mx_le; have hm0 := mx_nonneg f (sn s)
  have hkk : (((mx f (sn s)).toNat : Nat) : Int) = mx f (sn s) := by omega
  unfold fX12_costOf
  rw [R.cb, ob, r_heaps R hn e hm (fun i hi => by have := hr i hi; have := hr.lt hi; omega), ob]
  unfold cst
  by_cases g0 : g = 0
  · subst g0
    rw [if_pos rfl, cfold_s (by omega), if_neg (by omega), Int.zero_add]
    have := r_c16 R hn e hm u hU hS hr hkk
    rw [hkk] at this; exact this
  · rw [if_neg g0]
    by_cases g1 : g = 1
    · subst g1
      rw [if_pos rfl, cfold_s (by omega), if_neg (by omega), Int.zero_add]
      have := r_c156 R hn e hm u hU hr hkk
      rw [hkk] at this; exact this
    · rw [if_neg g1]
      by_cases g2 : g = 2
      · subst g2
        rw [r_c193w R hn e hm u hU, rwd_eq hn hU hS hr, if_neg (by omega), cfold_2]
        rfl
      · have g3 : g = 3 := by omega
        subst g3
        rw [r_c193q R hn e hm hX, rqr_eq hn hX (fun a b ha hb => G.2.2.2.2.2.2.2.1 a b (by omega) (by omega)) (fun a b ha hb => G.2.2.2.2.2.2.2.2.2.2.1 a b (by omega) (by omega)) hr, if_pos rfl, cfold_s (by omega)]
        rfl
end
