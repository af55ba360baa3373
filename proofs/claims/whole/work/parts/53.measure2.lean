theorem r_setWay {h : Hp} {pa fp sk sm jn li fl : Int} {W : Nat → Int} (o : h.2 62 = some (MO pa fp sk sm jn li fl)) (e : h.2 65 = some (arr 0 3024 W)) {a b : Nat} (ha : a < 12) (hb : b < 12) (v : Int) : fX12_setWay 62 a b v h = some (hput h 65 (arr 0 3024 (ups (ups W (12 * a + b) v) (12 * b + a) v))) := by
  unfold fX12_setWay
  rw [gR 2 o rfl, ob, ast_of (12 * a + b) e (by omega) (by omega), ob, gR 2 ((hput_ne (by omega)).trans o) rfl, ob, ast_of (12 * b + a) hput_eq (by omega) (by omega), ob, hput_hput]
theorem Wnew.c {P W0 W : Nat → Int} {kd : Nat} {c c' : Nat → Nat → Prop} [DecidableRel c] [DecidableRel c'] (h : Wnew P W0 kd c W) (hc : ∀ u v, u < 12 → v < 12 → (c u v ↔ c' u v)) : Wnew P W0 kd c' W := by
  intro u v hu hv
  refine (h u v hu hv).trans ?_
  have := hc u v hu hv
  by_cases z : c u v
  · rw [if_pos z, if_pos (this.mp z)]
  · rw [if_neg z, if_neg (fun y => z (this.mpr y))]
theorem r_meas {h : Hp} {s : Scn} {hist : List Scn} {x : Aux} {flt : Int} (R : RI h s hist x flt) {kd : Nat} {P W : Nat → Int} (eP : h.2 64 = some (arr 0 1008 P)) (eW : h.2 65 = some (arr 0 3024 W)) (hn : sn s ≤ 12) (hk : kd < 3) (hP : ∀ i, i < 48 → -1000 ≤ P i ∧ P i ≤ 1000) :
    ∃ W', fX12_measure_28 FU 62 kd 0 0 h = some (sumN (sn s) (fun a => sumN a (fun b => ovr P kd a b)), hput h 65 (arr 0 3024 W')) ∧ Wnew P W kd (fun u v => u ≠ v ∧ u < sn s ∧ v < sn s) W' ∧ ∀ j, 144 ≤ j → W' j = W j := by
  obtain ⟨pa, fp, sm, o⟩ := R.obj
  generalize hnn : sn s = n at *
  have nb : ∀ {β : Type} (W1 : Nat → Int) (k : Int × Hp → Option β), ((cob (hput h 65 (arr 0 3024 W1)) 11 62).bind fun _ => (fX12_n 62 (hput h 65 (arr 0 3024 W1))).bind k) = k ((n : Int), hput h 65 (arr 0 3024 W1)) := fun W1 k => by
    rw [R.nbA (hput_ne (by omega)) (hput_ne (by omega)), hnn]
  have o' : ∀ W1, (hput h 65 (arr 0 3024 W1)).2 62 = _ := fun W1 => (hput_ne (by omega)).trans o
  have P' : ∀ W1, (hput h 65 (arr 0 3024 W1)).2 64 = some (arr 0 1008 P) := fun W1 => (hput_ne (by omega)).trans eP
  -- one couple
  have one : ∀ (K1 : Nat → Int → Int → Int → Hp → Option (Int × Hp)) (K2 : Nat → Int → Int → Int → Int → Hp → Option (Int × Hp)) (a b : Nat) (c : Int) (W1 : Nat → Int), a < 12 → b < 12 → 0 ≤ c → c ≤ 1000 → fX12_measure_56 K1 K2 FU 62 kd c a b 0 0 (hput h 65 (arr 0 3024 W1)) = K2 62 kd (c + ovr P kd a b) a ((b + 1 : Nat) : Int) (hput h 65 (arr 0 3024 (ups (ups W1 (12 * a + b) (nway P kd a b)) (12 * b + a) (nway P kd a b)))) := by
    intro K1 K2 a b c W1 ha hb hc0 hc1
    refine lp (fun N i (g : Int) => fX12_measure_56 K1 K2 N 62 kd c a b g i (hput h 65 (arr 0 3024 W1))) (fun i g => g = gapM P a b kd i) 4 (fun r => r = K2 62 kd (c + ovr P kd a b) a ((b + 1 : Nat) : Int) (hput h 65 (arr 0 3024 (ups (ups W1 (12 * a + b) (nway P kd a b)) (12 * b + a) (nway P kd a b))))) ?_ ?_ FU 0 0 (Nat.zero_le _) (FU_lt (by omega)) rfl
    · intro N i g hi hg
      have h1 := gapM_le hP ha hb (kd := kd) i (by omega); have h2 := gap1_le hP ha hb (i := i) hi
      have h0 := gapM_le hP ha hb (kd := kd) (i + 1) (by omega)
      have h4 := hP (4 * a + i) (by omega); have h5 := hP (4 * b + i) (by omega)
      refine ⟨_, rfl, ?_⟩
      simp only [fX12_measure_56, fX12_measure_126]
      rw [if_neg (by omega), gR 1 (o' W1) rfl, ob, ald_of (4 * a + i) (P' W1) (by omega) (by omega), ob, ob, ald_of (4 * b + i) (P' W1) (by omega) (by omega), ob]
      have e1 : max (P (4 * a + i) - P (4 * b + i)) (-(P (4 * a + i) - P (4 * b + i))) = gap1 P a b i := rfl
      rw [c32_n (by omega) (by omega), ob, e1, c32_n (by omega) (by omega), ob, hg]
      simp only [gapM] at h0 ⊢
      by_cases k0 : kd = 0
      · subst k0
        simp only [if_pos] at h0
        rw [if_pos (by omega), c32_n (by omega) (by omega), ob, c32_n (by omega) (by omega), ob]; rfl
      · by_cases k1 : kd = 1
        · subst k1
          rw [if_neg (by omega), if_pos (by omega), c32_n (by omega) (by omega), ob]; rfl
        · rw [if_neg k0, if_neg k1] at h0
          rw [if_neg (by omega), if_neg (by omega), c32_n (by omega) (by omega), ob, c32_n (by omega) (by omega), ob, if_neg k0, if_neg k1]; rfl
    · intro N g hg
      have go := gapM_le hP (a := a) (b := b) (kd := kd) ha hb 4 (by omega)
      simp only [fX12_measure_56, fX12_measure_134, fX12_measure_145, fX12_measure_165]
      rw [if_pos (by omega), hg]
      by_cases e : gapM P a b kd 4 ≤ 10000
      · rw [if_pos e, if_pos e, co (o' W1), ob, r_setWay (o' W1) hput_eq ha hb, ob, c32_n (by omega) (by omega), ob, hput_hput]
        have ev : nway P kd a b = gapM P a b kd 4 := by unfold nway; omega
        simp only [ovr, if_pos e, ev]; rw [Int.add_zero]; rfl
      · rw [if_neg e, c32_n (by omega) (by omega), ob, if_neg e, co (o' W1), ob, r_setWay (o' W1) hput_eq ha hb, ob, c32_n (by omega) (by omega), ob, hput_hput]
        have ev : nway P kd a b = 10000 := by unfold nway; omega
        simp only [ovr, if_neg e, ev]; rfl
  have inn : ∀ (Kk : Nat → Int → Int → Int → Hp → Option (Int × Hp)) (a : Nat), a < n → ∀ (c : Int) (W1 : Nat → Int), 0 ≤ c → c ≤ a * 12 → Wnew P W kd (fun u v => u ≠ v ∧ (u < a ∨ v < a) ∧ u < n ∧ v < n) W1 → (∀ j, 144 ≤ j → W1 j = W j) → ∃ W2, fX12_measure_41 Kk FU 62 kd c a ((a + 1 : Nat) : Int) (hput h 65 (arr 0 3024 W1)) = Kk 62 kd (c + sumN n (fun b => if a < b then ovr P kd b a else 0)) ((a + 1 : Nat) : Int) (hput h 65 (arr 0 3024 W2)) ∧ Wnew P W kd (fun u v => u ≠ v ∧ (u < a + 1 ∨ v < a + 1) ∧ u < n ∧ v < n) W2 ∧ ∀ j, 144 ≤ j → W2 j = W j := by
    intro Kk a ha c W1 hc0 hc1 hW hW2
    refine lp (fun N b (s : Int × (Nat → Int)) => fX12_measure_41 Kk N 62 kd s.1 a b (hput h 65 (arr 0 3024 s.2))) (fun b s => a + 1 ≤ b ∧ s.1 = c + sumN b (fun b => if a < b then ovr P kd b a else 0) ∧ Wnew P W kd (fun u v => u ≠ v ∧ ((u < a ∨ v < a) ∧ u < n ∧ v < n ∨ (u = a ∧ a < v ∧ v < b) ∨ (v = a ∧ a < u ∧ u < b))) s.2 ∧ ∀ j, 144 ≤ j → s.2 j = W j) n (fun r => ∃ W2, r = Kk 62 kd (c + sumN n (fun b => if a < b then ovr P kd b a else 0)) ((a + 1 : Nat) : Int) (hput h 65 (arr 0 3024 W2)) ∧ Wnew P W kd (fun u v => u ≠ v ∧ (u < a + 1 ∨ v < a + 1) ∧ u < n ∧ v < n) W2 ∧ ∀ j, 144 ≤ j → W2 j = W j) ?_ ?_ FU (a + 1) (c, W1) (by omega) (FU_lt (by omega)) ⟨Nat.le_refl _, ?_, hW.c (fun u v hu hv => by omega), hW2⟩
    · intro N b ⟨c', W'⟩ hb ⟨h0, h1, h2, h3⟩
      have h1 : c' = c + sumN b (fun b => if a < b then ovr P kd b a else 0) := h1
      have h3 : ∀ j, 144 ≤ j → W' j = W j := h3
      have hs := sumN_01 (n := b) (F := fun b => if a < b then ovr P kd b a else 0) (fun j _ => by split; exact ovr_01 _ _ _ _; exact ⟨by omega, by omega⟩)
      refine ⟨(c' + ovr P kd a b, ups (ups W' (12 * a + b) (nway P kd a b)) (12 * b + a) (nway P kd a b)), ⟨by omega, ?_, Wnew.step h2 (a := a) (b := b) (fun u v hu hv => by omega) (by omega) (by omega), fun j hj => ?_⟩, ?_⟩
      · simp only [sumN]; rw [if_pos (by omega)]
        have : ovr P kd b a = ovr P kd a b := by unfold ovr; rw [gapM_sym]
        omega
      · show ups (ups W' (12 * a + b) (nway P kd a b)) (12 * b + a) (nway P kd a b) j = W j
        rw [ups_at, if_neg (by omega), ups_at, if_neg (by omega)]; exact h3 j hj
      · simp only [fX12_measure_41]
        rw [nb, if_neg (by show ¬ (n : Int) ≤ b; omega)]
        exact one Kk (fX12_measure_41 Kk N) a b c' W' (by omega) (by omega) (by omega) (by omega)
    · intro N ⟨c', W'⟩ ⟨h0, h1, h2, h3⟩
      have h1 : c' = c + sumN n (fun b => if a < b then ovr P kd b a else 0) := h1
      simp only [fX12_measure_41, fX12_measure_174]
      rw [nb, if_pos (by show (n : Int) ≤ n; omega), c32_n (by omega) (by omega), ob, h1]
      exact ⟨W', rfl, Wnew.c h2 (fun u v hu hv => by omega), h3⟩
    · show c = c + _
      rw [sumN_zero (fun i hi => by rw [if_neg (by omega)])]; omega
  have z := lp (fun N a (s : Int × (Nat → Int)) => fX12_measure_28 N 62 kd s.1 a (hput h 65 (arr 0 3024 s.2))) (fun a s => s.1 = sumN a (fun a => sumN n (fun b => if a < b then ovr P kd b a else 0)) ∧ Wnew P W kd (fun u v => u ≠ v ∧ (u < a ∨ v < a) ∧ u < n ∧ v < n) s.2 ∧ ∀ j, 144 ≤ j → s.2 j = W j) n (fun r => ∃ W', r = some (sumN n (fun a => sumN a (fun b => ovr P kd a b)), hput h 65 (arr 0 3024 W')) ∧ Wnew P W kd (fun u v => u ≠ v ∧ u < n ∧ v < n) W' ∧ ∀ j, 144 ≤ j → W' j = W j) ?_ ?_ FU 0 (0, W) (Nat.zero_le _) (FU_lt (by omega)) ⟨by simp [sumN], fun u v hu hv => by rw [if_neg (by omega)], fun _ _ => rfl⟩
  · rw [show hput h 65 (arr 0 3024 W) = h from hput_self eW] at z; exact z
  · intro N a ⟨c, W1⟩ ha ⟨h1, h2, h3⟩
    have h1 : c = sumN a (fun a => sumN n (fun b => if a < b then ovr P kd b a else 0)) := h1
    have hb : 0 ≤ c ∧ c ≤ a * 12 := by
      rw [h1]
      have q : ∀ j, 0 ≤ sumN n (fun b => if j < b then ovr P kd b j else 0) ∧ sumN n (fun b => if j < b then ovr P kd b j else 0) ≤ n := fun j => sumN_01 (fun l _ => by split; exact ovr_01 _ _ _ _; exact ⟨by omega, by omega⟩)
      exact ⟨sumN_nonneg (fun j _ => (q j).1), sumN_le (fun j hj => by have := (q j).2; omega)⟩
    obtain ⟨W2, e2, n2, n3⟩ := inn (fX12_measure_28 N) a ha c W1 (by omega) (by omega) h2 h3
    refine ⟨(c + sumN n (fun b => if a < b then ovr P kd b a else 0), W2), ⟨by simp only [sumN]; omega, n2, n3⟩, ?_⟩
    simp only [fX12_measure_28]
    rw [nb, if_neg (by show ¬ (n : Int) ≤ a; omega), c32_n (by omega) (by omega), ob]
    exact e2
  · intro N ⟨c, W1⟩ ⟨h1, h2, h3⟩
    simp only [fX12_measure_28, fX12_measure_180]
    rw [nb, if_pos (by show (n : Int) ≤ n; omega)]
    refine ⟨W1, ?_, Wnew.c h2 (fun u v hu hv => by omega), h3⟩
    rw [show c = sumN n (fun a => sumN n (fun b => if a < b then ovr P kd b a else 0)) from h1, sumN_tri (fun a b => ovr P kd b a)]
/-- all ways told by places -/
def setM (s : Scn) (kd : Nat) : Scn := (sn s, sP s, fun i => if i / 12 ≠ i % 12 ∧ i / 12 < sn s ∧ i % 12 < sn s then nway (sP s) kd (i / 12) (i % 12) else sW s i, sX s, sK s, sf s)
theorem setM_W (s : Scn) (kd : Nat) {u v : Nat} (hv : v < 12) : sW (setM s kd) (12 * u + v) = if u ≠ v ∧ u < sn s ∧ v < sn s then nway (sP s) kd u v else sW s (12 * u + v) := by
  show (if (12 * u + v) / 12 ≠ (12 * u + v) % 12 ∧ _ then _ else _) = _
  rw [show (12 * u + v) / 12 = u by omega, show (12 * u + v) % 12 = v by omega]
theorem i12 {i : Nat} (hi : i < 144) : ∃ u v, u < 12 ∧ v < 12 ∧ i = 12 * u + v := ⟨i / 12, i % 12, by omega, by omega, by omega⟩
theorem setM_good {s : Scn} (G : GSc s) {kd : Nat} : GSc (setM s kd) := by
  obtain ⟨g1, g2, g3, g4, g5, g6, g7⟩ := G
  refine ⟨g1, g2, g3, fun i hi => ?_, fun a b ha hb => ?_, fun a ha => ?_, g7⟩
  · obtain ⟨u, v, hu, hv, rfl⟩ := i12 hi
    rw [setM_W s kd hv]
    split
    · have := gapM_le g3 (a := u) (b := v) (kd := kd) hu hv 4 (by omega)
      unfold nway; omega
    · exact g4 _ hi
  · rw [setM_W s kd hb, setM_W s kd ha, nway_sym, g5 a b ha hb]
    by_cases z : a ≠ b ∧ a < sn s ∧ b < sn s
    · rw [if_pos z, if_pos (by omega)]
    · rw [if_neg z, if_neg (by omega)]
  · rw [setM_W s kd ha, if_neg (by omega)]; exact g6 a ha
theorem nway_congr {P P' : Nat → Int} (e : Eqn 48 P P') {a b kd : Nat} (ha : a < 12) (hb : b < 12) : nway P kd a b = nway P' kd a b := by unfold nway; rw [gapM_congr e ha hb (by omega)]
theorem ovr_congr {P P' : Nat → Int} (e : Eqn 48 P P') {a b kd : Nat} (ha : a < 12) (hb : b < 12) : ovr P kd a b = ovr P' kd a b := by unfold ovr; rw [gapM_congr e ha hb (by omega)]
theorem both_measure {h : Hp} (B : Both h) (a : Int) : ∃ r h1 h2, fX11_measure 1 a h = some (r, h1) ∧ fX12_measure 62 a h1 = some (r, h2) ∧ Both h2 := by
  obtain ⟨s, hist, x, flt, G, C, R⟩ := B
  have hn := G.1.2.1
  by_cases e : 0 ≤ a ∧ a ≤ 2
  · obtain ⟨kd, rfl⟩ := Int.eq_ofNat_of_zero_le e.1
    obtain ⟨h1, e1, C1, F1⟩ := c_change C hn
    obtain ⟨P, W, X, K, f, S, z1, z2, z3, z4, z5⟩ := C1.2.1
    obtain ⟨W', e2, n2⟩ := c_meas C1.1 S G.1.1 hn (kd := kd) (by omega) (fun i hi => by rw [z1 i hi]; exact G.1.2.2.1 i hi)
    have kk : ∀ k, ¬ scs 2 k → (hput h1 4 (arr 0 144 W')).2 k = h1.2 k := fun k hk => hput_ne (fun z => hk ⟨by omega, by omega⟩)
    have C2 : CI (hput h1 4 (arr 0 144 W')) (setM s kd) ((s :: hist).take 20) x 0 := C1.scene rfl kk ⟨P, W', X, K, f, S.W W', z1, fun i hi => by
      obtain ⟨u, v, hu, hv, rfl⟩ := i12 hi
      rw [n2 u v hu hv, setM_W s kd hv, z2 _ (by omega), nway_congr z1 hu hv], z3, z4, z5⟩
    have F2 : FC h (hput h1 4 (arr 0 144 W')) := F1.tr (FC.scene kk)
    obtain ⟨h2, h3, e3, R2, F3, e4, R3, F4⟩ := change2 G R F2
    obtain ⟨⟨pa, fp, sm, Z, P3, W3, X3, K3, N3, a1, M, S3, -⟩, -⟩ := id R3
    obtain ⟨m0, m1, m2, m3, m4, m5⟩ := id M
    have qP : Eqn 48 P3 (sP s) := fun i hi => by have := S3.2.1 i hi; simpa using this
    obtain ⟨W4, e5, n5, k5⟩ := r_meas R3 m1 m2 hn (kd := kd) (by omega) (fun i hi => by rw [qP i hi]; exact G.1.2.2.1 i hi)
    obtain ⟨t0, t1, t2, t3, t4, t5⟩ := S3
    have R4 : RI (hput h3 65 (arr 0 3024 W4)) (setM s kd) ((s :: hist).take 20) x 0 := R3.scene (Fr.rf.put ⟨by omega, by omega⟩) ⟨(hput_ne (by omega)).trans m0, (hput_ne (by omega)).trans m1, hput_eq, (hput_ne (by omega)).trans m3, (hput_ne (by omega)).trans m4, (hput_ne (by omega)).trans m5⟩ ⟨t0, t1, fun i hi => by
      obtain ⟨u, v, hu, hv, rfl⟩ := i12 hi
      have := t2 (12 * u + v) hi
      simp only [Nat.mul_zero, Nat.zero_add] at this ⊢
      rw [n5 u v hu hv, setM_W s kd hv, this, nway_congr qP hu hv], t3, t4, t5⟩ (by
      intro Z0 P0 W0 X0 K0 N0 M0 t y ht1 ht2 hy
      obtain ⟨u0, u1, u2, u3, u4, u5⟩ := M.uq M0
      subst u0; subst u1; subst u2; subst u3; subst u4; subst u5
      obtain ⟨y0, y1, y2, y3, y4, y5⟩ := hy
      exact ⟨y0, y1, fun k hk => (k5 _ (by omega)).trans (y2 k hk), y3, y4, y5⟩)
    refine ⟨sumN (sn s) (fun a => sumN a (fun b => ovr (sP s) kd a b)), hput h1 4 (arr 0 144 W'), hput h3 65 (arr 0 3024 W4), ?_, ?_, bo ⟨setM_good G.1, take20_good G.1 G.2.1, G.2.2⟩ C2 (F4.tr (FM.put (q := 65) (by omega))) R4⟩
    · unfold fX11_measure
      rw [if_neg (by omega), if_pos (by omega), co C.1, ob, C.cr1, ob, e1, ob, e2]
      rw [sumN_congr (fun i hi => sumN_congr (fun j hj => ovr_congr z1 (a := i) (b := j) (by omega) (by omega)))]
    · unfold fX12_measure
      rw [e3, ob, if_neg (by omega), if_pos (by omega), R2.cb, ob, e4, ob, e5]
      rw [sumN_congr (fun i hi => sumN_congr (fun j hj => ovr_congr qP (a := i) (b := j) (by omega) (by omega)))]
  · obtain ⟨h2, h3, e2, R2, e3, B3⟩ := refuse2 G C R 1
    have b1 : fX11_measure_9 1 h = some (-1, hput h 1 (BO 1)) := by
      unfold fX11_measure_9; rw [co C.1, ob, c_refuse C 1, ob]
    have b2 : fX12_measure_14 62 h2 = some (-1, h3) := by
      unfold fX12_measure_14; rw [R2.cb, ob, e3, ob]
    refine ⟨-1, hput h 1 (BO 1), h3, ?_, ?_, B3⟩
    · unfold fX11_measure
      by_cases e1 : a < 0
      · rw [if_pos e1, b1]
      · rw [if_neg e1, if_neg (by omega), b1]
    · unfold fX12_measure
      rw [e2, ob]
      by_cases e1 : a < 0
      · rw [if_pos e1, b2]
      · rw [if_neg e1, if_neg (by omega), b2]
