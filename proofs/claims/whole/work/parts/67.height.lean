theorem treeN {s : Scn} {hist : List Scn} {x : Aux} (G : Good s hist x) (hx : x.2.1.1 ≠ -1) : x.2.1.1 = ((sn s - 1 : Nat) : Int) ∧ ∀ i, i < sn s - 1 → 0 ≤ x.2.1.2.1 i ∧ x.2.1.2.1 i < x.2.1.2.2.1 i ∧ x.2.1.2.2.1 i < sn s ∧ 0 ≤ x.2.1.2.2.2 i ∧ x.2.1.2.2.2 i ≤ 10000 := by
  rcases G.2.2.2.1 with z | z
  · exact absurd z hx
  · have := G.1.1
    exact ⟨by omega, z.2⟩
theorem r_hgt {h : Hp} {s : Scn} {hist : List Scn} {x : Aux} {flt : Int} (R : RI h s hist x flt) (hn : sn s ≤ 12) (m : Nat) (hm : x.2.1.1 = m) (hm12 : m ≤ 12) {a b : Nat} (ha : a < sn s) (hb : b < sn s) : ∃ r h', fX12_height_50 FU 62 a b 0 h = some (r, h') ∧ RI h' s hist x flt ∧ Fr (fun k => k = 76) h h' ∧ isHgt x.2.1.2.1 x.2.1.2.2.1 x.2.1.2.2.2 m a b r := by
  refine lpe (fun N i (g : Hp) => fX12_height_50 N 62 a b i g) (fun i g => RI g s hist x flt ∧ Fr (fun k => k = 76) h g ∧ ∀ j, j < i → jn x.2.1.2.1 x.2.1.2.2.1 (j + 1) a ≠ jn x.2.1.2.1 x.2.1.2.2.1 (j + 1) b) m (fun o => ∃ r h', o = some (r, h') ∧ RI h' s hist x flt ∧ Fr (fun k => k = 76) h h' ∧ isHgt x.2.1.2.1 x.2.1.2.2.1 x.2.1.2.2.2 m a b r) ?_ ?_ FU 0 h (Nat.zero_le _) (FU_lt (by omega)) ⟨R, Fr.rf, fun j hj => by omega⟩
  · intro N i g hi ⟨h1, h2, h3⟩
    obtain ⟨pa, fp, sm, o⟩ := h1.obj
    obtain ⟨g2, F, e2, m2, q2, R2, F2⟩ := r_join h1 hn (m := i + 1) (by omega) (by omega)
    obtain ⟨pa2, fp2, sm2, o2⟩ := R2.obj
    obtain ⟨O2, T2, H2, w1, w2, w3, y1, y2, y3⟩ := R2.tre
    simp only [fX12_height_50, fX12_height_80]
    have e2' : fX12_join 62 ((i : Int) + 1) g = some g2 := e2
    rw [gI 11 o rfl, ob, if_neg (by omega), c32_n (by omega) (by omega), ob, h1.cb, ob, e2', ob, gR 20 o2 rfl, ob, ald_of a m2 rfl (by omega), ob, ob, ald_of b m2 rfl (by omega), ob, q2 a ha, q2 b hb]
    by_cases z : jn x.2.1.2.1 x.2.1.2.2.1 (i + 1) a = jn x.2.1.2.1 x.2.1.2.2.1 (i + 1) b
    · left
      rw [if_pos z, gR 14 o2 rfl, ob, ald_of i w3 rfl (by omega), ob, y3 i (by omega)]
      exact ⟨_, g2, rfl, R2, h2.tr F2, Or.inl ⟨i, hi, z, h3, rfl⟩⟩
    · right
      rw [if_neg z]
      refine ⟨g2, ⟨R2, h2.tr F2, fun j hj => ?_⟩, rfl⟩
      by_cases w : j = i
      · subst w; exact z
      · exact h3 j (by omega)
  · intro N g ⟨h1, h2, h3⟩
    obtain ⟨pa, fp, sm, o⟩ := h1.obj
    simp only [fX12_height_50, fX12_height_93]
    rw [gI 11 o rfl, ob, if_pos (by omega)]
    exact ⟨0, g, rfl, h1, h2, Or.inr ⟨h3, rfl⟩⟩
theorem both_height {h : Hp} (B : Both h) (a b : Int) : ∃ r h1 h2, fX11_height 1 a b h = some (r, h1) ∧ fX12_height 62 a b h1 = some (r, h2) ∧ Both h2 := by
  obtain ⟨s, hist, x, flt, G, C, R⟩ := B
  have hn := G.1.2.1
  have ref : ∀ z : Int, ∃ h2 h3, ((cob h 10 1).bind fun _ => (fX11_refuse 1 z h).bind fun p2 => some (p2.1, p2.2)) = some (-1, hput h 1 (BO z)) ∧ putV (hput h 1 (BO z)) 11 62 19 (vi 0) = some h2 ∧ RI h2 s hist x 0 ∧ ((cob h2 11 62).bind fun _ => (fX12_no 62 z h2).bind fun p2 => some (p2.1, p2.2)) = some (-1, h3) ∧ Both h3 := by
    intro z
    obtain ⟨h2, h3, e2, R2, e3, B3⟩ := refuse2 G C R z
    exact ⟨h2, h3, by rw [co C.1, ob, c_refuse C z, ob], e2, R2, by rw [R2.cb, ob, e3, ob], B3⟩
  obtain ⟨sz, hl, O, T, H, Bt, t0, -⟩ := C.tre
  unfold fX11_height fX12_height
  simp only [fX11_height_16, fX12_height_21]
  rw [co C.1, ob, c_isThing C, ob]
  by_cases ea : 0 ≤ a ∧ a < sn s
  · by_cases eb : 0 ≤ b ∧ b < sn s
    · by_cases k1 : x.2.1.1 = -1
      · obtain ⟨h2, h3, r1, r2, R2, r3, r4⟩ := ref 2
        obtain ⟨pa, fp, sm, o⟩ := R2.obj
        refine ⟨-1, hput h 1 (BO 2), h3, ?_, ?_, r4⟩
        · rw [if_pos ea, if_neg one0]
          show ((cob h 10 1).bind fun _ => (fX11_isThing 1 b h).bind _) = _
          rw [co C.1, ob, c_isThing C, ob, if_pos eb, if_neg one0]
          show ((getR h 10 1 3).bind _) = _
          rw [gR 3 C.1 rfl, ob, gI 0 t0 rfl, ob, if_pos k1, r1]
        · rw [r2, ob, R2.cb, ob, r_isThing R2, ob, if_pos ea, if_neg one0]
          show ((cob h2 11 62).bind fun _ => (fX12_isThing 62 b h2).bind _) = _
          rw [R2.cb, ob, r_isThing R2, ob, if_pos eb, if_neg one0]
          show ((getI h2 11 62 11).bind _) = _
          rw [gI 11 o rfl, ob, if_pos k1, r3]
      · obtain ⟨em, -⟩ := treeN G k1
        obtain ⟨i, rfl⟩ := Int.eq_ofNat_of_zero_le ea.1
        obtain ⟨j, rfl⟩ := Int.eq_ofNat_of_zero_le eb.1
        obtain ⟨h2, e2, R2, C1, F2, B2⟩ := read2 G C R
        obtain ⟨sz', hl', O', T', H', Bt', u0, -⟩ := C1.tre
        obtain ⟨pa, fp, sm, o⟩ := R2.obj
        have main : ∃ r h3, fX10_heightOf 14 i j (hput h 1 (BO 0)) = some (r, hput h 1 (BO 0)) ∧ (if (i : Int) = j then some (0, h2) else fX12_height_50 FU 62 i j 0 h2) = some (r, h3) ∧ Both h3 := by
          by_cases z : i = j
          · subst z
            refine ⟨0, h2, ?_, by rw [if_pos rfl], B2⟩
            unfold fX10_heightOf
            rw [FU1]
            simp only [fX10_heightOf_8, fX10_heightOf_91]
            rw [gI 0 u0 rfl, ob, if_pos trivial]; split <;> rfl
          · obtain ⟨r, e3, q3⟩ := c_heightOf C1 (sn s - 1) em (by omega) i j z
            obtain ⟨r', h4, e4, R4, F4, q4⟩ := r_hgt R2 hn (sn s - 1) em (by omega) (a := i) (b := j) (by omega) (by omega)
            have : r = r' := q3.uq q4
            subst this
            exact ⟨r, h4, e3, by rw [if_neg (by omega), e4], bo G C1 (F2.tr (FM.of F4 (fun k hk => by omega))) R4⟩
        obtain ⟨r, h3, m1, m2, B3⟩ := main
        refine ⟨r, hput h 1 (BO 0), h3, ?_, ?_, B3⟩
        · rw [if_pos ea, if_neg one0]
          show ((cob h 10 1).bind fun _ => (fX11_isThing 1 j h).bind _) = _
          rw [co C.1, ob, c_isThing C, ob, if_pos eb, if_neg one0]
          show ((getR h 10 1 3).bind _) = _
          rw [gR 3 C.1 rfl, ob, gI 0 t0 rfl, ob, if_neg k1]
          show ((putV h 10 1 11 (vi 0)).bind _) = _
          rw [C.put1 0, ob, gR 3 C1.1 rfl, ob, co u0, ob, m1, ob]
        · rw [e2, ob, R2.cb, ob, r_isThing R2, ob, if_pos ea, if_neg one0]
          show ((cob h2 11 62).bind fun _ => (fX12_isThing 62 j h2).bind _) = _
          rw [R2.cb, ob, r_isThing R2, ob, if_pos eb, if_neg one0]
          show ((getI h2 11 62 11).bind _) = _
          rw [gI 11 o rfl, ob, if_neg k1]
          exact m2
    · obtain ⟨h2, h3, r1, r2, R2, r3, r4⟩ := ref 1
      refine ⟨-1, hput h 1 (BO 1), h3, ?_, ?_, r4⟩
      · rw [if_pos ea, if_neg one0]
        show ((cob h 10 1).bind fun _ => (fX11_isThing 1 b h).bind _) = _
        rw [co C.1, ob, c_isThing C, ob, if_neg eb, if_pos rfl]
        exact r1
      · rw [r2, ob, R2.cb, ob, r_isThing R2, ob, if_pos ea, if_neg one0]
        show ((cob h2 11 62).bind fun _ => (fX12_isThing 62 b h2).bind _) = _
        rw [R2.cb, ob, r_isThing R2, ob, if_neg eb, if_pos rfl]
        exact r3
  · obtain ⟨h2, h3, r1, r2, R2, r3, r4⟩ := ref 1
    refine ⟨-1, hput h 1 (BO 1), h3, ?_, ?_, r4⟩
    · rw [if_neg ea, if_pos rfl]; exact r1
    · rw [r2, ob, R2.cb, ob, r_isThing R2, ob, if_neg ea, if_pos rfl]; exact r3
/-- so many joins are not above a height -/
def isCut (H : Nat → Int) (v : Int) (len m : Nat) : Prop := m ≤ len ∧ (∀ j, j < m → H j ≤ v) ∧ (m = len ∨ v < H m)
theorem isCut.uq {H : Nat → Int} {v : Int} {len m m' : Nat} (h : isCut H v len m) (h' : isCut H v len m') : m = m' := by
  obtain ⟨a1, a2, a3⟩ := h
  obtain ⟨b1, b2, b3⟩ := h'
  rcases Nat.lt_trichotomy m m' with z | z | z
  · have := b2 m z; omega
  · exact z
  · have := a2 m' z; omega
theorem isPt.row {h : Hp} {q : Nat} {n k : Int} {f : Nat → Int} (P : isPt h q n k f) (F : Nat → Int) : isPt (hput h (q + 1) (arr 0 12 F)) q n k F := by
  obtain ⟨p0, p1, g, p2⟩ := P
  exact ⟨(hput_ne (by omega)).trans p0, hput_eq, g, (hput_ne (by omega)).trans p2⟩
theorem c_partBelow {h : Hp} {s : Scn} {hist : List Scn} {x : Aux} {flt : Int} (C : CI h s hist x flt) (hn : sn s ≤ 12) (len : Nat) (hl : x.2.1.1 = len) (hl12 : len ≤ 12) (hO : ∀ i, i < len → 0 ≤ x.2.1.2.1 i ∧ x.2.1.2.1 i < sn s) (v : Int) : ∃ h' m g, fX10_partBelow 14 v 7 h = some h' ∧ isCut x.2.1.2.2.2 v len m ∧ isPt h' 7 (sn s) (mx g (sn s)) g ∧ RN (sn s) (fun t => jn x.2.1.2.1 x.2.1.2.2.1 m t) g ∧ Fr (fun k => 7 ≤ k ∧ k ≤ 9) h h' := by
  obtain ⟨sz', hl', O', T', H', Bt', u0, u1, u2, u3, u4, q1, q2, q3⟩ := C.tre
  rw [hl] at u0 q1 q2 q3
  have q1 : Eqn len O' x.2.1.2.1 := q1
  have q2 : Eqn len T' x.2.1.2.2.1 := q2
  have q3 : Eqn len H' x.2.1.2.2.2 := q3
  obtain ⟨f, P, ef⟩ := C.par
  generalize x.2.1.2.1 = O at *
  generalize x.2.1.2.2.1 = T at *
  generalize x.2.1.2.2.2 = H at *
  generalize hN : sn s = n at *
  have P' : ∀ F, isPt (hput h 8 (arr 0 12 F)) 7 n (mx f n) F := fun F => P.row F
  have v0 : ∀ F, (hput h 8 (arr 0 12 F)).2 14 = _ := fun F => (hput_ne (by omega)).trans u0
  have v1 : ∀ F, (hput h 8 (arr 0 12 F)).2 15 = _ := fun F => (hput_ne (by omega)).trans u1
  have v2 : ∀ F, (hput h 8 (arr 0 12 F)).2 16 = _ := fun F => (hput_ne (by omega)).trans u2
  have v3 : ∀ F, (hput h 8 (arr 0 12 F)).2 17 = _ := fun F => (hput_ne (by omega)).trans u3
  have fin : ∀ (m : Nat) (F : Nat → Int), isCut H v len m → (∀ t, t < n → F t = jn O T m t) → ∃ h' m g, fX10_partBelow_96 7 (hput h 8 (arr 0 12 F)) = some h' ∧ isCut H v len m ∧ isPt h' 7 n (mx g n) g ∧ RN n (fun t => jn O T m t) g ∧ Fr (fun k => 7 ≤ k ∧ k ≤ 9) h h' := by
    intro m F hc hF
    obtain ⟨h2, g, e2, P2, N2, F2⟩ := renumber_ok hn (P' F) (fun i hi => by
      rw [hF i hi]; have := jn_in (O := O) (T := T) (n := n) (m := len) hO hi m hc.1; omega)
    refine ⟨h2, m, g, ?_, hc, P2, ⟨N2.1, fun i j hi hj => by rw [N2.2 i j hi hj, hF i hi, hF j hj]⟩, (Fr.rf.put (q := 8) (by omega)).tr (F2.mono (fun k hk => by rcases hk with z | z | z <;> omega))⟩
    unfold fX10_partBelow_96
    rw [co (P' F).1, ob, e2, ob]
  have L1 : ∃ F, fX10_partBelow 14 v 7 h = fX10_partBelow_23 14 v 7 (hput h 8 (arr 0 12 F)) ∧ ∀ t, t < n → F t = (t : Int) := by
    unfold fX10_partBelow
    have z := lp (fun N i (F : Nat → Int) => fX10_partBelow_2 N 14 v 7 i (hput h 8 (arr 0 12 F))) (fun i F => ∀ t, t < i → F t = (t : Int)) n (fun o => ∃ F, o = fX10_partBelow_23 14 v 7 (hput h 8 (arr 0 12 F)) ∧ ∀ t, t < n → F t = (t : Int)) ?_ ?_ FU 0 f (Nat.zero_le _) (FU_lt (by omega)) (fun t ht => by omega)
    · rw [show hput h 8 (arr 0 12 f) = h from hput_self P.2.1] at z; exact z
    · intro N i F hi hF
      simp only [fX10_partBelow_2]
      rw [gI 0 (P' F).1 rfl, ob, if_neg (by omega), gR 2 (P' F).1 rfl, ob, ast_of i (P' F).2.1 rfl (by omega), ob, hput_hput, c32_n (by omega) (by omega), ob]
      refine ⟨_, fun t ht => ?_, rfl⟩
      rw [ups_at]
      by_cases z : t = i
      · subst z; rw [if_pos rfl]
      · rw [if_neg z]; exact hF t (by omega)
    · intro N F hF
      simp only [fX10_partBelow_2]
      rw [gI 0 (P' F).1 rfl, ob, if_pos (by omega)]
      exact ⟨F, rfl, hF⟩
  obtain ⟨F0, e0, hF0⟩ := L1
  rw [e0]
  unfold fX10_partBelow_23
  refine lpe (fun N i (F : Nat → Int) => fX10_partBelow_25 N 14 v 7 i (hput h 8 (arr 0 12 F))) (fun i F => (∀ t, t < n → F t = jn O T i t) ∧ ∀ j, j < i → H j ≤ v) len (fun o => ∃ h' m g, o = some h' ∧ isCut H v len m ∧ isPt h' 7 n (mx g n) g ∧ RN n (fun t => jn O T m t) g ∧ Fr (fun k => 7 ≤ k ∧ k ≤ 9) h h') ?_ ?_ FU 0 F0 (Nat.zero_le _) (FU_lt (by omega)) ⟨hF0, fun j hj => by omega⟩
  · intro N i F hi ⟨h1, h2⟩
    simp only [fX10_partBelow_25]
    rw [gI 0 (v0 F) rfl, ob, if_neg (by omega), gR 4 (v0 F) rfl, ob, ald_of i (v3 F) rfl (by omega), ob, q3 i hi]
    by_cases z : v < H i
    · left
      rw [if_pos z]
      exact fin i F ⟨by omega, h2, Or.inr z⟩ h1
    · right
      rw [if_neg z]
      have L2 : ∃ F2, fX10_partBelow_46 (fX10_partBelow_25 N) FU 14 v 7 i 0 (hput h 8 (arr 0 12 F)) = fX10_partBelow_90 (fX10_partBelow_25 N) 14 v 7 i (hput h 8 (arr 0 12 F2)) ∧ ∀ t, t < n → F2 t = jn O T (i + 1) t := by
        refine lp (fun N' t (F : Nat → Int) => fX10_partBelow_46 (fX10_partBelow_25 N) N' 14 v 7 i t (hput h 8 (arr 0 12 F))) (fun t F => (∀ j, j < t → F j = jn O T (i + 1) j) ∧ ∀ j, t ≤ j → j < n → F j = jn O T i j) n (fun o => ∃ F2, o = fX10_partBelow_90 (fX10_partBelow_25 N) 14 v 7 i (hput h 8 (arr 0 12 F2)) ∧ ∀ t, t < n → F2 t = jn O T (i + 1) t) ?_ ?_ FU 0 F (Nat.zero_le _) (FU_lt (by omega)) ⟨fun j hj => by omega, fun j _ hj => h1 j hj⟩
        · intro N' t F ht ⟨b2, b3⟩
          simp only [fX10_partBelow_46, fX10_partBelow_84]
          rw [gI 0 (P' F).1 rfl, ob, if_neg (by omega), gR 2 (P' F).1 rfl, ob, ald_of t (P' F).2.1 rfl (by omega), ob, gR 3 (v0 F) rfl, ob, ald_of i (v2 F) rfl (by omega), ob, q2 i hi, b3 t (Nat.le_refl _) ht]
          by_cases z : jn O T i t = T i
          · rw [if_pos z, ob, gR 2 (v0 F) rfl, ob, ald_of i (v1 F) rfl (by omega), ob, q1 i hi, ast_of t (P' F).2.1 rfl (by omega), ob, hput_hput, c32_n (by omega) (by omega), ob]
            refine ⟨_, ⟨fun j hj => ?_, fun j h1 h2 => ?_⟩, rfl⟩
            · rw [ups_at]
              by_cases y : j = t
              · subst y; rw [if_pos rfl]; simp only [jn]; rw [if_pos z]
              · rw [if_neg y]; exact b2 j (by omega)
            · rw [ups_at, if_neg (by omega)]; exact b3 j (by omega) h2
          · rw [if_neg z, c32_n (by omega) (by omega), ob]
            refine ⟨F, ⟨fun j hj => ?_, fun j h1 h2 => b3 j (by omega) h2⟩, rfl⟩
            by_cases y : j = t
            · subst y; simp only [jn]; rw [if_neg z]; exact b3 j (Nat.le_refl _) ht
            · exact b2 j (by omega)
        · intro N' F ⟨b2, b3⟩
          simp only [fX10_partBelow_46]
          rw [gI 0 (P' F).1 rfl, ob, if_pos (by omega)]
          exact ⟨F, rfl, b2⟩
      obtain ⟨F2, e2, hF2⟩ := L2
      refine ⟨F2, ⟨hF2, fun j hj => ?_⟩, ?_⟩
      · by_cases w : j = i
        · subst w; omega
        · exact h2 j (by omega)
      · rw [e2]
        simp only [fX10_partBelow_90]
        rw [c32_n (by omega) (by omega), ob]; rfl
  · intro N F ⟨h1, h2⟩
    simp only [fX10_partBelow_25]
    rw [gI 0 (v0 F) rfl, ob, if_pos (by omega)]
    exact fin len F ⟨Nat.le_refl _, h2, Or.inl rfl⟩ h1
theorem both_cut {h : Hp} (B : Both h) (a : Int) : ∃ r h1 h2, fX11_cut 1 a h = some (r, h1) ∧ fX12_cut 62 a h1 = some (r, h2) ∧ Both h2 := by
  obtain ⟨s, hist, x, flt, G, C, R⟩ := B
  have hn := G.1.2.1
  obtain ⟨sz, hl, O, T, H, Bt, t0, -⟩ := C.tre
  unfold fX11_cut fX12_cut
  by_cases k1 : x.2.1.1 = -1
  · obtain ⟨h2, h3, e2, R2, e3, B3⟩ := refuse2 G C R 2
    obtain ⟨pa, fp, sm, o⟩ := R2.obj
    refine ⟨-1, hput h 1 (BO 2), h3, ?_, ?_, B3⟩
    · rw [gR 3 C.1 rfl, ob, gI 0 t0 rfl, ob, if_pos k1, co C.1, ob, c_refuse C 2, ob]
    · rw [e2, ob, gI 11 o rfl, ob, if_pos k1, R2.cb, ob, e3, ob]
  · obtain ⟨em, eg⟩ := treeN G k1
    obtain ⟨h1, e1, C1, F1⟩ := c_change C hn
    obtain ⟨sz', hl', O', T', H', Bt', u0, -⟩ := C1.tre
    obtain ⟨h2, m, g, e2, hc, P2, N2, FA⟩ := c_partBelow C1 hn (sn s - 1) em (by omega) (fun i hi => by have := eg i hi; omega) a
    have C2 := C1.setp FA P2
    have F3 : FC h h2 := F1.tr (FC.of FA (fun k hk => by omega))
    obtain ⟨h3, h4, e3, R3, F4, e4, R4, F5⟩ := change2 G R F3
    obtain ⟨pa3, fp3, sm3, o3⟩ := R3.obj
    have L : ∃ m' : Nat, fX12_cut_25 FU 62 a 0 h4 = fX12_cut_49 62 m' h4 ∧ isCut x.2.1.2.2.2 a (sn s - 1) m' := by
      obtain ⟨pa, fp, sm, o⟩ := R4.obj
      obtain ⟨O2, T2, H2, w1, w2, w3, y1, y2, y3⟩ := R4.tre
      refine lpe (fun N i (_ : Unit) => fX12_cut_25 N 62 a i h4) (fun i _ => ∀ j, j < i → x.2.1.2.2.2 j ≤ a) (sn s - 1) (fun r => ∃ m' : Nat, r = fX12_cut_49 62 m' h4 ∧ isCut x.2.1.2.2.2 a (sn s - 1) m') ?_ ?_ FU 0 () (Nat.zero_le _) (FU_lt (by omega)) (fun j hj => by omega)
      · intro N i _ hi h1
        simp only [fX12_cut_25]
        rw [gI 11 o rfl, ob, if_neg (by omega), gR 14 o rfl, ob, ald_of i w3 rfl (by omega), ob, y3 i (by omega)]
        by_cases z : a < x.2.1.2.2.2 i
        · left
          rw [if_pos z]
          exact ⟨i, rfl, by omega, h1, Or.inr z⟩
        · right
          rw [if_neg z, c32_n (by omega) (by omega), ob]
          refine ⟨(), fun j hj => ?_, rfl⟩
          by_cases w : j = i
          · subst w; omega
          · exact h1 j (by omega)
      · intro N _ h1
        simp only [fX12_cut_25]
        rw [gI 11 o rfl, ob, if_pos (by omega)]
        exact ⟨sn s - 1, rfl, Nat.le_refl _, h1, Or.inl rfl⟩
    obtain ⟨m', e5, hc'⟩ := L
    have : m' = m := hc'.uq hc
    subst this
    obtain ⟨h5, F, e6, m6, q6, R6, Fr6⟩ := r_join R4 hn (m := m') (by have := hc.1; omega) (by have := hc.1; omega)
    obtain ⟨h7, g', Fg, e7, m7, q7, N7, R7, Fr7⟩ := r_number R6 hn m6
    have egg : Eqn (sn s) g' g := RN.same N7 N2 (fun i j hi hj => by rw [q6 i hi, q6 j hj])
    obtain ⟨h8, e8, R8, Fr8⟩ := r_become R7 hn (hist12 G) (Or.inl rfl) m7 (fun j hj => (q7 j hj).trans (egg j hj))
    obtain ⟨pa6, fp6, sm6, o6⟩ := R6.obj
    obtain ⟨pa7, fp7, sm7, o7⟩ := R7.obj
    refine ⟨mx g (sn s), h2, h8, ?_, ?_, bo ⟨setf_good G.1 N2.1, take20_good G.1 G.2.1, G.2.2⟩ C2 (F5.tr ((FM.of Fr6 (fun k hk => by omega)).tr ((FM.of Fr7 (fun k hk => by omega)).tr (FM.of Fr8 (fun k hk => by omega))))) R8⟩
    · rw [gR 3 C.1 rfl, ob, gI 0 t0 rfl, ob, if_neg k1, co C.1, ob, C.cr1, ob, e1, ob, gR 3 C1.1 rfl, ob, gR 0 C1.1 rfl, ob, gR 5 C1.now rfl, ob, co u0, ob, e2, ob, gR 0 C2.1 rfl, ob, gR 5 C2.now rfl, ob, gI 1 P2.1 rfl, ob]
    · rw [e3, ob, gI 11 o3 rfl, ob, if_neg k1, R3.cb, ob, e4, ob, e5]
      unfold fX12_cut_49
      rw [R4.cb, ob, e6, ob, gR 20 o6 rfl, ob, R6.cb, ob, e7, ob, gR 20 o7 rfl, ob, R7.cb, ob, e8, ob, mxe egg]
