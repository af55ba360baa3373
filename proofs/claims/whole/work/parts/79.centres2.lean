def upn (f : Nat → Nat) (i v : Nat) : Nat → Nat := fun j => if j = i then v else f j
theorem CTr.step {W : Nat → Int} {n : Nat} (hn1 : 1 ≤ n) (hn : n ≤ 12) {row : Nat → Nat} {i z : Nat} (hi : 1 ≤ i) (h : CTr W n row i) (hz : isFar n (fun t => W (12 * t + row (nr W row t i))) z) : CTr W n (upn row i z) (i + 1) ∧ ∀ t, t < n → ∀ j, j ≤ i → nr W (upn row i z) t j = nr W row t j := by
  have en : ∀ t, t < n → ∀ j, j ≤ i → nr W (upn row i z) t j = nr W row t j := fun t ht j hj =>
    nr_congr (by omega) (fun _ _ => rfl) j (fun l hl => by
      have : upn row i z l = row l := if_neg (by omega)
      rw [this]; exact ⟨rfl, by have := h.lt hn1 l (by omega); omega⟩)
  refine ⟨⟨by show (if 0 = i then z else row 0) = 0; rw [if_neg (by omega)]; exact h.1, fun j hj0 hj => ?_⟩, en⟩
  by_cases y : j = i
  · subst y
    have e : upn row j z j = z := if_pos rfl
    rw [e]
    refine ⟨hz.1, fun t ht => ?_⟩
    have a1 := hz.2 t ht
    have r1 : ∀ t, t < n → W (12 * t + upn row j z (nr W (upn row j z) t j)) = W (12 * t + row (nr W row t j)) := by
      intro t ht
      have hl := nr_lt (W := W) (row := row) (t := t) j hj0
      rw [en t ht j (Nat.le_refl _)]
      have : upn row j z (nr W row t j) = row (nr W row t j) := if_neg (by omega)
      rw [this]
    show W (12 * t + upn row j z (nr W (upn row j z) t j)) ≤ W (12 * z + upn row j z (nr W (upn row j z) z j)) ∧ (t < z → W (12 * t + upn row j z (nr W (upn row j z) t j)) < W (12 * z + upn row j z (nr W (upn row j z) z j)))
    rw [r1 t ht, r1 z hz.1]; exact a1
  · have e : upn row i z j = row j := if_neg y
    rw [e]
    have a := h.2 j hj0 (by omega)
    refine ⟨a.1, fun t ht => ?_⟩
    have r1 : ∀ t, t < n → W (12 * t + upn row i z (nr W (upn row i z) t j)) = W (12 * t + row (nr W row t j)) := by
      intro t ht
      have hl := nr_lt (W := W) (row := row) (t := t) j hj0
      rw [en t ht j (by omega)]
      have : upn row i z (nr W row t j) = row (nr W row t j) := if_neg (by omega)
      rw [this]
    show W (12 * t + upn row i z (nr W (upn row i z) t j)) ≤ W (12 * row j + upn row i z (nr W (upn row i z) (row j) j)) ∧ (t < row j → W (12 * t + upn row i z (nr W (upn row i z) t j)) < W (12 * row j + upn row i z (nr W (upn row i z) (row j) j)))
    rw [r1 t ht, r1 (row j) a.1]; exact a.2 t ht
theorem c_centres {h : Hp} {n : Nat} {k : Int} {P W X K f : Nat → Int} (S : isSc h 2 n P W X K k f) (hn1 : 1 ≤ n) (hn : n ≤ 12) (hW : Wok W) {kk : Nat} (hk1 : 1 ≤ kk) (hk : kk ≤ n) :
    ∃ (h' : Hp) (row : Nat → Nat) (g : Nat → Int), fX7_partByCentres 2 kk h = some (maxN n (fun t => W (12 * t + row (nr W row t kk))), h') ∧ CTr W n row kk ∧ isPt h' 7 n (mx g n) g ∧ RN n (fun t => (row (nr W row t kk) : Int)) g ∧ Fr (fun k => 7 ≤ k ∧ k ≤ 9) h h' := by
  unfold fX7_partByCentres
  obtain ⟨F0, e0, h0⟩ := fillI 0 (by omega) S.2.2.2.2.2.2.1
  rw [gR 5 S.1 rfl, ob, gR 2 S.2.2.2.2.2.1 rfl, ob, e0, ob]
  refine lp (fun N i (F : Nat → Int) => fX7_partByCentres_13 N 2 kk i (hput h 8 (arr 0 12 F))) (fun i F => 1 ≤ i ∧ ∃ row : Nat → Nat, CTr W n row i ∧ ∀ t, t < n → F t = row (nr W row t i)) kk (fun r => ∃ (h' : Hp) (row : Nat → Nat) (g : Nat → Int), r = some (maxN n (fun t => W (12 * t + row (nr W row t kk))), h') ∧ CTr W n row kk ∧ isPt h' 7 n (mx g n) g ∧ RN n (fun t => (row (nr W row t kk) : Int)) g ∧ Fr (fun k => 7 ≤ k ∧ k ≤ 9) h h') ?_ ?_ FU 1 F0 hk1 (FU_lt (by omega)) ⟨Nat.le_refl _, fun _ => 0, ⟨rfl, fun i a b => by omega⟩, fun t ht => h0 t (by omega)⟩
  · intro N i F hi ⟨hi1, row, h1, h2⟩
    have S' : isSc (hput h 8 (arr 0 12 F)) 2 n P W X K k F := S.fF F
    have hc : ∀ t, t < n → F t = ((row (nr W row t i) : Nat) : Int) ∧ row (nr W row t i) < 12 := fun t ht => ⟨h2 t ht, by have := h1.lt hn1 _ (nr_lt (W := W) (row := row) (t := t) i hi1); omega⟩
    obtain ⟨z, e1, hz⟩ := far_ok S' hn1 hn (c := fun t => row (nr W row t i)) hc
    obtain ⟨F', e2, hF'⟩ := gather_ok S' hn (c := fun t => row (nr W row t i)) hc (z := z) (by have := hz.1; omega)
    obtain ⟨c1, c2⟩ := h1.step hn1 hn hi1 hz
    refine ⟨F', ⟨by omega, upn row i z, c1, fun t ht => ?_⟩, ?_⟩
    · have hl := nr_lt (W := W) (row := row) (t := t) i hi1
      rw [hF' t ht, nr_s hi1, c2 t ht i (Nat.le_refl _)]
      have u1 : upn row i z i = z := if_pos rfl
      have u2 : upn row i z (nr W row t i) = row (nr W row t i) := if_neg (by omega)
      rw [u1, u2]
      by_cases y : W (12 * t + z) < W (12 * t + row (nr W row t i))
      · rw [if_pos y, if_pos y, u1]
      · rw [if_neg y, if_neg y, u2]
    · have cc : ∀ z : Int, cob (z, hput h 8 (arr 0 12 F)).2 6 2 = some () := fun z => co S'.1
      rw [fX7_partByCentres_13, if_neg (by omega), co S'.1, ob, e1, ob, cc, ob]
      simp only []
      rw [e2, ob, hput_hput, c32_n (by omega) (by omega), ob]; rfl
  · intro N F ⟨hi1, row, h1, h2⟩
    have S' : isSc (hput h 8 (arr 0 12 F)) 2 n P W X K k F := S.fF F
    have hc : ∀ t, t < n → F t = ((row (nr W row t kk) : Nat) : Int) ∧ row (nr W row t kk) < 12 := fun t ht => ⟨h2 t ht, by have := h1.lt hn1 _ (nr_lt (W := W) (row := row) (t := t) kk hi1); omega⟩
    obtain ⟨z, e1, hz⟩ := far_ok S' hn1 hn (c := fun t => row (nr W row t kk)) hc
    have hz1 := hz.1
    have cz := hc z hz1
    have S5 := S'.2.2.2.2.2
    obtain ⟨h2', g, e3, P3, N3, F3⟩ := renumber_ok hn S5 (fun i hi => by have := hc i hi; omega)
    have cc : ∀ z : Int, cob (z, hput h 8 (arr 0 12 F)).2 6 2 = some () := fun z => co S'.1
    have e4 : fX7_partByCentres_13 (N + 1) 2 kk kk (hput h 8 (arr 0 12 F)) = some (W (12 * z + row (nr W row z kk)), h2') := by
      rw [fX7_partByCentres_13, if_pos (by omega), fX7_partByCentres_32, co S'.1, ob, e1, ob, cc, ob]
      simp only []
      rw [wayTo_ok S' (by omega) cz.2 cz.1, ob]
      simp only []
      rw [gR 5 S'.1 rfl, ob, co S5.1, ob, e3, ob]
    have em := hz.max (by have := hW (12 * z + row (nr W row z kk)) (by omega); exact this.1)
    refine ⟨h2', row, g, ?_, h1, P3, ⟨N3.1, fun i j hi hj => by rw [N3.2 i j hi hj, h2 i hi, h2 j hj]⟩, (Fr.rf.put (q := 8) (by omega)).tr (F3.mono (fun k hk => by rcases hk with z | z | z <;> omega))⟩
    show fX7_partByCentres_13 (N + 1) 2 kk kk (hput h 8 (arr 0 12 F)) = _
    rw [e4, ← em]
section
variable {h : Hp} {s : Scn} {hist : List Scn} {x : Aux} {flt : Int}
theorem r_nearest (R : RI h s hist x flt) (hn : sn s ≤ 12) {Rw : Nat → Int} (e : h.2 80 = some (arr 0 12 Rw)) {row : Nat → Nat} {k t : Nat} (hk1 : 1 ≤ k) (hk : k ≤ 12) (hrow : ∀ i, i < k → Rw i = row i ∧ row i < 12) (ht : t < 12) : fX12_nearest 62 t k h = some (((nr (sW s) row t k : Nat) : Int), h) := by
  obtain ⟨pa, fp, sm, o⟩ := R.obj
  obtain ⟨W, eW, qW⟩ := R.way
  unfold fX12_nearest
  refine lp (fun N i (c : Nat) => fX12_nearest_5 N 62 t k c i h) (fun i c => 1 ≤ i ∧ c = nr (sW s) row t i) k (fun r => r = some (((nr (sW s) row t k : Nat) : Int), h)) ?_ ?_ FU 1 0 hk1 (FU_lt (by omega)) ⟨Nat.le_refl _, rfl⟩
  · intro N i c hi ⟨h1, h2⟩
    have hl := nr_lt (W := sW s) (row := row) (t := t) i h1
    have r1 := hrow i hi; have r2 := hrow c (by omega)
    refine ⟨_, ⟨by omega, rfl⟩, ?_⟩
    rw [fX12_nearest_5, if_neg (by omega), gR 2 o rfl, ob, gR 24 o rfl, ob, ald_of i e rfl (by omega), ob, r1.1, ald_of (12 * t + row i) eW (by omega) (by omega), ob, qW _ (by omega), ob, ob, ald_of c e rfl (by omega), ob, r2.1, ald_of (12 * t + row c) eW (by omega) (by omega), ob, qW _ (by omega), nr_s h1, ← h2]
    by_cases z : sW s (12 * t + row i) < sW s (12 * t + row c)
    · rw [if_neg (by omega), if_pos z, fX12_nearest_50, c32_n (by omega) (by omega), ob]; rfl
    · rw [if_pos (by omega), if_neg z, fX12_nearest_50, c32_n (by omega) (by omega), ob]; rfl
  · intro N c ⟨h1, h2⟩
    rw [fX12_nearest_5, if_pos (by omega), fX12_nearest_56, h2]
theorem r_far (R : RI h s hist x flt) (G : GSc s) {Rw : Nat → Int} (e : h.2 80 = some (arr 0 12 Rw)) {row : Nat → Nat} {i : Nat} (hi1 : 1 ≤ i) (hi : i < 12) (hrow : ∀ j, j < i → Rw j = row j ∧ row j < sn s) (K37 : Nat → Int → Int → Hp → Option (Int × Hp)) (kk : Int) : ∃ z : Nat, fX12_centres_50 K37 FU 62 kk i 0 (-1) 0 h = fX12_centres_107 K37 62 kk i z h ∧ isFar (sn s) (fun t => sW s (12 * t + row (nr (sW s) row t i))) z := by
  have hn := G.2.1
  have hn1 := G.1
  obtain ⟨pa, fp, sm, o⟩ := R.obj
  obtain ⟨W, eW, qW⟩ := R.way
  refine lp (fun N t (z : Nat × Int) => fX12_centres_50 K37 N 62 kk i z.1 z.2 t h) (fun t z => (t = 0 ∧ z = (0, -1)) ∨ (z.1 < t ∧ z.2 = sW s (12 * z.1 + row (nr (sW s) row z.1 i)) ∧ ∀ j, j < t → sW s (12 * j + row (nr (sW s) row j i)) ≤ z.2 ∧ (j < z.1 → sW s (12 * j + row (nr (sW s) row j i)) < z.2))) (sn s) (fun r => ∃ z : Nat, r = fX12_centres_107 K37 62 kk i z h ∧ isFar (sn s) (fun t => sW s (12 * t + row (nr (sW s) row t i))) z) ?_ ?_ FU 0 (0, -1) (Nat.zero_le _) (FU_lt (by omega)) (Or.inl ⟨rfl, rfl⟩)
  · intro N t ⟨z, v⟩ ht hI
    have hI : (t = 0 ∧ (z, v) = (0, -1)) ∨ (z < t ∧ v = sW s (12 * z + row (nr (sW s) row z i)) ∧ ∀ j, j < t → sW s (12 * j + row (nr (sW s) row j i)) ≤ v ∧ (j < z → sW s (12 * j + row (nr (sW s) row j i)) < v)) := hI
    have hl := nr_lt (W := sW s) (row := row) (t := t) i hi1
    have rn := hrow _ hl
    have wb := G.wok (12 * t + row (nr (sW s) row t i)) (by omega)
    show ∃ s', _ ∧ fX12_centres_50 K37 (N + 1) 62 kk i z v t h = _
    rw [fX12_centres_50, R.nb, if_neg (by show ¬ (sn s : Int) ≤ t; omega)]
    simp only []
    rw [gR 2 o rfl, ob, gR 24 o rfl, ob, R.cb, ob, r_nearest R hn e hi1 (by omega) (fun j hj => by have := hrow j hj; exact ⟨this.1, by omega⟩) (by omega), ob, ald_of (nr (sW s) row t i) e rfl (by omega), ob, rn.1, ald_of (12 * t + row (nr (sW s) row t i)) eW (by omega) (by omega), ob, qW _ (by omega)]
    by_cases w : v < sW s (12 * t + row (nr (sW s) row t i))
    · refine ⟨(t, sW s (12 * t + row (nr (sW s) row t i))), Or.inr ⟨by show t < t + 1; omega, rfl, fun j hj => ?_⟩, ?_⟩
      · by_cases y : j = t
        · subst y; exact ⟨Int.le_refl _, fun q => by have : j < j := q; omega⟩
        · rcases hI with ⟨q1, q2⟩ | ⟨q1, q2, q3⟩
          · omega
          · have := q3 j (by omega)
            exact ⟨by show _ ≤ sW s (12 * t + row (nr (sW s) row t i)); omega, fun _ => by show _ < sW s (12 * t + row (nr (sW s) row t i)); omega⟩
      · rw [if_pos w, fX12_centres_101, c32_n (by omega) (by omega), ob]; rfl
    · rcases hI with ⟨q1, q2⟩ | ⟨q1, q2, q3⟩
      · have : v = -1 := by injection q2
        omega
      · refine ⟨(z, v), Or.inr ⟨by show z < t + 1; omega, q2, fun j hj => ?_⟩, ?_⟩
        · by_cases y : j = t
          · subst y; exact ⟨by show _ ≤ v; omega, fun q => by have : j < z := q; omega⟩
          · exact q3 j (by omega)
        · rw [if_neg w, fX12_centres_101, c32_n (by omega) (by omega), ob]; rfl
  · intro N ⟨z, v⟩ hI
    show ∃ z', fX12_centres_50 K37 (N + 1) 62 kk i z v (sn s) h = _ ∧ _
    rw [fX12_centres_50, R.nb, if_pos (by show (sn s : Int) ≤ sn s; omega)]
    rcases hI with ⟨q1, q2⟩ | ⟨q1, q2, q3⟩
    · omega
    · refine ⟨z, rfl, q1, fun j hj => ?_⟩
      have q2 : v = sW s (12 * z + row (nr (sW s) row z i)) := q2
      have := q3 j hj
      show _ ≤ sW s (12 * z + row (nr (sW s) row z i)) ∧ (_ → _ < sW s (12 * z + row (nr (sW s) row z i)))
      rw [← q2]; exact this
theorem r_centres (R : RI h s hist x flt) (G : GSc s) (hh : ∀ y ∈ hist, sn y ≤ 12) {kk : Nat} (hk1 : 1 ≤ kk) (hk : kk ≤ sn s) {Rw0 : Nat → Int} (e0 : h.2 80 = some (arr 0 12 Rw0)) (hr0 : Rw0 0 = 0) :
    ∃ (h' : Hp) (row : Nat → Nat) (g : Nat → Int), fX12_centres_37 FU 62 kk 1 h = some (maxN (sn s) (fun t => sW s (12 * t + row (nr (sW s) row t kk))), h') ∧ CTr (sW s) (sn s) row kk ∧ RN (sn s) (fun t => (nr (sW s) row t kk : Int)) g ∧ RI h' (setf s g) hist x flt ∧ FM h h' := by
  have hn := G.2.1
  have hn1 := G.1
  have L1 : ∃ (h1 : Hp) (row : Nat → Nat) (Rw : Nat → Int), fX12_centres_37 FU 62 kk 1 h = fX12_centres_120 62 kk h1 ∧ h1.2 80 = some (arr 0 12 Rw) ∧ (∀ j, j < kk → Rw j = row j) ∧ CTr (sW s) (sn s) row kk ∧ RI h1 s hist x flt ∧ Fr (fun k => k = 80) h h1 := by
    refine lp (fun N i (g : Hp) => fX12_centres_37 N 62 kk i g) (fun i g => 1 ≤ i ∧ ∃ (row : Nat → Nat) (Rw : Nat → Int), g.2 80 = some (arr 0 12 Rw) ∧ (∀ j, j < i → Rw j = row j) ∧ CTr (sW s) (sn s) row i ∧ RI g s hist x flt ∧ Fr (fun k => k = 80) h g) kk (fun r => ∃ (h1 : Hp) (row : Nat → Nat) (Rw : Nat → Int), r = fX12_centres_120 62 kk h1 ∧ h1.2 80 = some (arr 0 12 Rw) ∧ (∀ j, j < kk → Rw j = row j) ∧ CTr (sW s) (sn s) row kk ∧ RI h1 s hist x flt ∧ Fr (fun k => k = 80) h h1) ?_ ?_ FU 1 h hk1 (FU_lt (by omega)) ⟨Nat.le_refl _, fun _ => 0, Rw0, e0, fun j hj => ?_, ⟨rfl, fun i a b => by omega⟩, R, Fr.rf⟩
    · intro N i g hi ⟨hi1, row, Rw, a1, a2, a3, a4, a5⟩
      obtain ⟨z, e1, hz⟩ := r_far a4 G a1 hi1 (by omega) (row := row) (fun j hj => ⟨a2 j hj, a3.lt hn1 j hj⟩) (fX12_centres_37 N) kk
      obtain ⟨pa, fp, sm, o⟩ := a4.obj
      obtain ⟨c1, c2⟩ := a3.step hn1 hn hi1 hz
      refine ⟨hput g 80 (arr 0 12 (ups Rw i z)), ⟨by omega, upn row i z, ups Rw i z, hput_eq, fun j hj => ?_, c1, a4.pu (by omega) _, a5.put rfl⟩, ?_⟩
      · rw [ups_at]
        unfold upn
        by_cases y : j = i
        · rw [if_pos y, if_pos y]
        · rw [if_neg y, if_neg y]; exact a2 j (by omega)
      · rw [fX12_centres_37, if_neg (by omega), e1, fX12_centres_107, gR 24 o rfl, ob, ast_of i a1 rfl (by omega), ob, c32_n (by omega) (by omega), ob]; rfl
    · intro N g ⟨hi1, row, Rw, a1, a2, a3, a4, a5⟩
      rw [fX12_centres_37, if_pos (by omega)]
      exact ⟨g, row, Rw, rfl, a1, a2, a3, a4, a5⟩
    · have : j = 0 := by omega
      subst this; exact hr0
  obtain ⟨h1, row, Rw, e1, m1, q1, ct, R1, Fr1⟩ := L1
  have hrow : ∀ i, i < kk → Rw i = row i ∧ row i < 12 := fun i hi => ⟨q1 i hi, by have := ct.lt hn1 i hi; omega⟩
  obtain ⟨r1, r2, r3, r4, r5, s1, s2, s3, s4, s5⟩ := R1.scr
  have L2 : ∃ (h2 : Hp) (F : Nat → Int), fX12_centres_120 62 kk h1 = fX12_centres_176 62 (maxN (sn s) (fun t => sW s (12 * t + row (nr (sW s) row t kk)))) h2 ∧ h2.2 76 = some (arr 0 12 F) ∧ (∀ t, t < sn s → F t = nr (sW s) row t kk) ∧ RI h2 s hist x flt ∧ Fr (fun k => k = 76) h1 h2 := by
    unfold fX12_centres_120
    refine lp (fun N t (z : Int × Hp) => fX12_centres_124 N 62 kk z.1 t z.2) (fun t z => z.1 = maxN t (fun t => sW s (12 * t + row (nr (sW s) row t kk))) ∧ ∃ F, z.2.2 76 = some (arr 0 12 F) ∧ (∀ j, j < t → F j = nr (sW s) row j kk) ∧ RI z.2 s hist x flt ∧ Fr (fun k => k = 76) h1 z.2) (sn s) (fun r => ∃ (h2 : Hp) (F : Nat → Int), r = fX12_centres_176 62 (maxN (sn s) (fun t => sW s (12 * t + row (nr (sW s) row t kk)))) h2 ∧ h2.2 76 = some (arr 0 12 F) ∧ (∀ t, t < sn s → F t = nr (sW s) row t kk) ∧ RI h2 s hist x flt ∧ Fr (fun k => k = 76) h1 h2) ?_ ?_ FU 0 (0, h1) (Nat.zero_le _) (FU_lt (by omega)) ⟨rfl, r1, s1, fun j hj => by omega, R1, Fr.rf⟩
    · intro N t ⟨c, g⟩ ht ⟨hc, F, a1, a2, a3, a4⟩
      have hc : c = maxN t (fun t => sW s (12 * t + row (nr (sW s) row t kk))) := hc
      have a1 : g.2 76 = some (arr 0 12 F) := a1
      have a3 : RI g s hist x flt := a3
      have a4 : Fr (fun k => k = 76) h1 g := a4
      obtain ⟨pa, fp, sm, o⟩ := a3.obj
      obtain ⟨W, eW, qW⟩ := a3.way
      have g80 : g.2 80 = some (arr 0 12 Rw) := (a4.2 80 (by omega)).trans m1
      have hl := nr_lt (W := sW s) (row := row) (t := t) kk hk1
      have rn := hrow _ hl
      refine ⟨(max c (sW s (12 * t + row (nr (sW s) row t kk))), hput g 76 (arr 0 12 (ups F t (nr (sW s) row t kk)))), ⟨by simp only [maxN]; rw [hc], ups F t (nr (sW s) row t kk), hput_eq, fun j hj => ?_, a3.pu (by omega) _, a4.put rfl⟩, ?_⟩
      · rw [ups_at]
        by_cases y : j = t
        · subst y; rw [if_pos rfl]
        · rw [if_neg y]; exact a2 j (by omega)
      · show fX12_centres_124 (N + 1) 62 kk c t g = _
        rw [fX12_centres_124, a3.nb, if_neg (by show ¬ (sn s : Int) ≤ t; omega)]
        simp only []
        rw [gR 20 o rfl, ob, a3.cb, ob, r_nearest a3 hn g80 hk1 (by omega) hrow (by omega), ob]
        simp only []
        rw [ast_of t a1 rfl (by omega), ob, gR 2 ((hput_ne (by omega)).trans o) rfl, ob, gR 24 ((hput_ne (by omega)).trans o) rfl, ob, gR 20 ((hput_ne (by omega)).trans o) rfl, ob, ald_of t hput_eq rfl (by omega), ob]
        have eu : ups F t ((nr (sW s) row t kk : Nat) : Int) t = ((nr (sW s) row t kk : Nat) : Int) := by simp [ups_at]
        rw [eu, ald_of (nr (sW s) row t kk) ((hput_ne (by omega)).trans g80) rfl (by omega), ob, rn.1, ald_of (12 * t + row (nr (sW s) row t kk)) ((hput_ne (by omega)).trans eW) (by omega) (by omega), ob, qW _ (by omega), c32_n (by omega) (by omega), ob]
        rfl
    · intro N ⟨c, g⟩ ⟨hc, F, a1, a2, a3, a4⟩
      have hc : c = maxN (sn s) (fun t => sW s (12 * t + row (nr (sW s) row t kk))) := hc
      have a3 : RI g s hist x flt := a3
      show ∃ (h2 : Hp) (F : Nat → Int), fX12_centres_124 (N + 1) 62 kk c (sn s) g = _ ∧ _
      rw [fX12_centres_124, a3.nb, if_pos (by show (sn s : Int) ≤ sn s; omega), hc]
      exact ⟨g, F, rfl, a1, a2, a3, a4⟩
  obtain ⟨h2, F, e2, m2, q2, R2, Fr2⟩ := L2
  obtain ⟨h3, g, Fg, e3, m3, q3, N3, R3, Fr3⟩ := r_number R2 hn m2
  obtain ⟨h4, e4, R4, Fr4⟩ := r_become R3 hn hh (Or.inl rfl) m3 q3
  obtain ⟨pa2, fp2, sm2, o2⟩ := R2.obj
  obtain ⟨pa3, fp3, sm3, o3⟩ := R3.obj
  refine ⟨h4, row, g, ?_, ct, ⟨N3.1, fun i j hi hj => by rw [N3.2 i j hi hj, q2 i hi, q2 j hj]⟩, R4, (FM.of Fr1 (fun k hk => by omega)).tr ((FM.of Fr2 (fun k hk => by omega)).tr ((FM.of Fr3 (fun k hk => by omega)).tr (FM.of Fr4 (fun k hk => by omega))))⟩
  rw [e1, e2, fX12_centres_176, gR 20 o2 rfl, ob, R2.cb, ob, e3, ob, gR 20 o3 rfl, ob, R3.cb, ob, e4, ob]
end
theorem both_centres {h : Hp} (B : Both h) (a : Int) : ∃ r h1 h2, fX11_centres 1 a h = some (r, h1) ∧ fX12_centres 62 a h1 = some (r, h2) ∧ Both h2 := by
  obtain ⟨s, hist, x, flt, G, C, R⟩ := B
  have hn := G.1.2.1
  have hn1 := G.1.1
  unfold fX11_centres fX12_centres
  simp only [fX11_centres_16, fX12_centres_18]
  by_cases e : 1 ≤ a ∧ a ≤ sn s
  · obtain ⟨kk, rfl⟩ := Int.eq_ofNat_of_zero_le (show 0 ≤ a by omega)
    obtain ⟨h1, e1, C1, F1⟩ := c_change C hn
    obtain ⟨P, W, X, K, f, S, z1, z2, z3, z4, z5⟩ := C1.2.1
    obtain ⟨h2, row, g, e2, ct, P2, N2, FA⟩ := c_centres S hn1 hn (G.1.wok.eq z2) (kk := kk) (by omega) (by omega)
    have C2 := C1.setp FA P2
    have F3 : FC h h2 := F1.tr (FC.of FA (fun k hk => by omega))
    obtain ⟨h3, h4, e3, R3, F4, e4, R4, F5⟩ := change2 G R F3
    obtain ⟨r1, r2, r3, r4, r5, s1, s2, s3, s4, s5⟩ := R4.scr
    obtain ⟨pa, fp, sm, o⟩ := R4.obj
    have R5 := R4.pu (q := 80) (by omega) (ups r5 0 0)
    obtain ⟨h6, row', g', e6, ct', N6, R6, F6⟩ := r_centres R5 G.1 (hist12 G) (kk := kk) (by omega) (by omega) hput_eq (by simp [ups_at])
    -- both have the same centres
    have ct2 : CTr (sW s) (sn s) row kk := by
      refine ⟨ct.1, fun i a1 a2 => ?_⟩
      have a := ct.2 i a1 a2
      have r1 : ∀ t, t < sn s → W (12 * t + row (nr W row t i)) = sW s (12 * t + row (nr (sW s) row t i)) := by
        intro t ht
        have hl := nr_lt (W := W) (row := row) (t := t) i a1
        have hb := ct.lt hn1 _ (show nr W row t i < kk by omega)
        rw [nr_congr (by omega) z2 i (fun j hj => ⟨rfl, by have := ct.lt hn1 j (by omega); omega⟩)] at hb ⊢
        exact z2 _ (by omega)
      refine ⟨a.1, fun t ht => ?_⟩
      have := a.2 t ht
      simp only [r1 t ht, r1 (row i) a.1] at this
      exact this
    have er := ct2.uq hn1 hn ct'
    have hb : ∀ i, i < kk → row i = row' i ∧ row i < 12 := fun i hi => ⟨er i hi, by have := ct2.lt hn1 i hi; omega⟩
    have en : ∀ t, t < sn s → nr W row t kk = nr (sW s) row' t kk := fun t ht => nr_congr (by omega) z2 kk hb
    have eg : Eqn (sn s) g g' := RN.same N2 N6 (fun i j hi hj => by
      rw [en i hi, en j hj]
      have l1 := nr_lt (W := sW s) (row := row') (t := i) kk (by omega)
      have l2 := nr_lt (W := sW s) (row := row') (t := j) kk (by omega)
      rw [er _ l1, er _ l2]
      have := nr_eq (W := sW s) (row := row') (t := i) (u := j) (k := kk) (by omega)
      constructor
      · intro z; have := this.mp (by omega); omega
      · intro z; have := this.mpr (by omega); omega)
    have em : maxN (sn s) (fun t => W (12 * t + row (nr W row t kk))) = maxN (sn s) (fun t => sW s (12 * t + row' (nr (sW s) row' t kk))) := maxN_congr (fun t ht => by
      have l1 := nr_lt (W := sW s) (row := row') (t := t) kk (by omega)
      have b1 := hb _ l1
      rw [en t ht, b1.1]
      exact z2 _ (by omega))
    have C3 := setf_uniq C2 eg
    refine ⟨maxN (sn s) (fun t => sW s (12 * t + row' (nr (sW s) row' t kk))), h2, h6, ?_, ?_, bo ⟨setf_good G.1 N6.1, take20_good G.1 G.2.1, G.2.2⟩ C3 (F5.tr ((FM.put (q := 80) (by omega)).tr F6)) R6⟩
    · rw [if_neg (by omega), gR 0 C.1 rfl, ob, gI 0 C.now rfl, ob, if_pos e.2, co C.1, ob, C.cr1, ob, e1, ob, gR 0 C1.1 rfl, ob, co S.1, ob, e2, ob, em]
    · rw [e3, ob, if_neg (by omega), R3.nb, if_pos (by show (kk : Int) ≤ sn s; omega)]
      simp only []
      rw [R3.cb, ob, e4, ob, gR 24 o rfl, ob, ast_of (i := 0) 0 s5 rfl (by omega), ob, e6]
  · obtain ⟨h2, h3, e2, R2, e3, B3⟩ := refuse2 G C R 1
    refine ⟨-1, hput h 1 (BO 1), h3, ?_, ?_, B3⟩
    · by_cases e1 : a < 1
      · rw [if_pos e1, co C.1, ob, c_refuse C 1, ob]
      · rw [if_neg e1, gR 0 C.1 rfl, ob, gI 0 C.now rfl, ob, if_neg (by omega), co C.1, ob, c_refuse C 1, ob]
    · rw [e2, ob]
      by_cases e1 : a < 1
      · rw [if_pos e1, R2.cb, ob, e3, ob]
      · rw [if_neg e1, R2.nb, if_neg (by show ¬ a ≤ (sn s : Int); omega)]
        simp only []
        rw [R2.cb, ob, e3, ob]
