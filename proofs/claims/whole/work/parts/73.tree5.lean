section
variable {h : Hp} {s : Scn} {hist : List Scn} {x : Aux} {flt : Int}
theorem r_ren (R : RI h s hist x flt) (hn : sn s ≤ 12) {nm : Nat → Int} (e : h.2 76 = some (arr 0 12 nm)) (K48 : Nat → Int → Hp → Option (Int × Hp)) (kd p q : Int) : ∃ g nm', fX12_tree_214 K48 FU 62 kd p q 0 h = K48 62 kd g ∧ g.2 76 = some (arr 0 12 nm') ∧ (∀ t, t < sn s → nm' t = if nm t = q then p else nm t) ∧ RI g s hist x flt ∧ Fr (fun k => k = 76) h g := by
  refine lp (fun N t (g : Hp) => fX12_tree_214 K48 N 62 kd p q t g) (fun t g => ∃ nm', g.2 76 = some (arr 0 12 nm') ∧ (∀ j, j < t → nm' j = if nm j = q then p else nm j) ∧ (∀ j, t ≤ j → nm' j = nm j) ∧ RI g s hist x flt ∧ Fr (fun k => k = 76) h g) (sn s) (fun r => ∃ g nm', r = K48 62 kd g ∧ g.2 76 = some (arr 0 12 nm') ∧ (∀ t, t < sn s → nm' t = if nm t = q then p else nm t) ∧ RI g s hist x flt ∧ Fr (fun k => k = 76) h g) ?_ ?_ FU 0 h (Nat.zero_le _) (FU_lt (by omega)) ⟨nm, e, fun j hj => by omega, fun _ _ => rfl, R, Fr.rf⟩
  · intro N t g ht ⟨nm', a1, a2, a3, a4, a5⟩
    obtain ⟨pa, fp, sm, o⟩ := a4.obj
    rw [fX12_tree_214, a4.nb, if_neg (by show ¬ (sn s : Int) ≤ t; omega), gR 20 o rfl, ob, ald_of t a1 rfl (by omega), ob, a3 t (Nat.le_refl _)]
    by_cases z : nm t = q
    · refine ⟨hput g 76 (arr 0 12 (ups nm' t p)), ⟨_, hput_eq, fun j hj => ?_, fun j hj => ?_, a4.pu (by omega) _, a5.put rfl⟩, ?_⟩
      · rw [ups_at]
        by_cases y : j = t
        · subst y; rw [if_pos rfl, if_pos z]
        · rw [if_neg y]; exact a2 j (by omega)
      · rw [ups_at, if_neg (by omega)]; exact a3 j (by omega)
      · rw [if_pos z, ob, ast_of t a1 rfl (by omega), ob, fX12_tree_242, c32_n (by omega) (by omega), ob]; rfl
    · refine ⟨g, ⟨nm', a1, fun j hj => ?_, fun j hj => a3 j (by omega), a4, a5⟩, ?_⟩
      · by_cases y : j = t
        · subst y; rw [if_neg z]; exact a3 j (Nat.le_refl _)
        · exact a2 j (by omega)
      · rw [if_neg z, fX12_tree_242, c32_n (by omega) (by omega), ob]; rfl
  · intro N g ⟨nm', a1, a2, a3, a4, a5⟩
    rw [fX12_tree_214, a4.nb, if_pos (by show (sn s : Int) ≤ sn s; omega), fX12_tree_248]
    exact ⟨g, nm', rfl, a1, a2, a4, a5⟩
theorem r_tree (R : RI h s hist x flt) (G : GSc s) {kd : Nat} : ∃ (h' : Hp) (O T H : Nat → Int), fX12_tree_22 FU 62 kd 0 h = some (((sn s - 1 : Nat) : Int), h') ∧ RI h' s hist (setT x (((sn s - 1 : Nat) : Int), O, T, H)) flt ∧ TR kd (sW s) (sn s) O T H (sn s - 1) ∧ FM h h' := by
  have hn := G.2.1
  have hn1 := G.1
  obtain ⟨r1, r2, r3, r4, r5, s1, s2, s3, s4, s5⟩ := R.scr
  have L1 : ∃ g F, fX12_tree_22 FU 62 kd 0 h = fX12_tree_43 62 kd g ∧ g.2 76 = some (arr 0 12 F) ∧ (∀ t, t < sn s → F t = (t : Int)) ∧ RI g s hist x flt ∧ Fr (fun k => k = 76) h g := by
    refine lp (fun N i (g : Hp) => fX12_tree_22 N 62 kd i g) (fun i g => ∃ F, g.2 76 = some (arr 0 12 F) ∧ (∀ t, t < i → F t = (t : Int)) ∧ RI g s hist x flt ∧ Fr (fun k => k = 76) h g) (sn s) (fun o => ∃ g F, o = fX12_tree_43 62 kd g ∧ g.2 76 = some (arr 0 12 F) ∧ (∀ t, t < sn s → F t = (t : Int)) ∧ RI g s hist x flt ∧ Fr (fun k => k = 76) h g) ?_ ?_ FU 0 h (Nat.zero_le _) (FU_lt (by omega)) ⟨r1, s1, fun j hj => by omega, R, Fr.rf⟩
    · intro N i g hi ⟨F, a1, a2, a3, a5⟩
      obtain ⟨pa, fp, sm, o⟩ := a3.obj
      rw [fX12_tree_22, a3.nb, if_neg (by show ¬ (sn s : Int) ≤ i; omega), gR 20 o rfl, ob, ast_of i a1 rfl (by omega), ob, c32_n (by omega) (by omega), ob]
      refine ⟨_, ⟨_, hput_eq, fun j hj => ?_, a3.pu (by omega) _, a5.put rfl⟩, rfl⟩
      rw [ups_at]
      by_cases z : j = i
      · subst z; rw [if_pos rfl]
      · rw [if_neg z]; exact a2 j (by omega)
    · intro N g ⟨F, a1, a2, a3, a5⟩
      rw [fX12_tree_22, a3.nb, if_pos (by show (sn s : Int) ≤ sn s; omega)]
      exact ⟨g, F, rfl, a1, a2, a3, a5⟩
  obtain ⟨g1, F1, e1, m1, q1, R1, Fr1⟩ := L1
  obtain ⟨pa1, fp1, sm1, o1⟩ := R1.obj
  obtain ⟨O0, T0, H0, w1, w2, w3, -⟩ := R1.tre
  have R2 : RI (hput g1 62 (MO pa1 fp1 x.1.1 sm1 0 (x.2.2.2.1 : Int) flt)) s hist (setT x (0, O0, T0, H0)) flt := R1.sett (y := (0, O0, T0, H0)) o1 (Fr.rf.put (Or.inl rfl)) hput_eq ⟨O0, T0, H0, (hput_ne (by omega)).trans w1, (hput_ne (by omega)).trans w2, (hput_ne (by omega)).trans w3, fun _ _ => rfl, fun _ _ => rfl, fun _ _ => rfl⟩
  rw [e1]
  unfold fX12_tree_43
  rw [pV (fs' := [vr 63, vr 64, vr 65, vr 66, vr 67, vr 68, vi pa1, vi fp1, vi x.1.1, vi sm1, vr 69, vi 0, vr 70, vr 71, vr 72, vr 73, vr 74, vr 75, vi (x.2.2.2.1 : Int), vi flt, vr 76, vr 77, vr 78, vr 79, vr 80]) 11 o1 (by simp) rfl, ob]
  refine lp (fun N L (g : Hp) => fX12_tree_48 N 62 kd g) (fun L g => ∃ (O T H nm : Nat → Int), g.2 70 = some (arr 0 12 O) ∧ g.2 71 = some (arr 0 12 T) ∧ g.2 72 = some (arr 0 12 H) ∧ g.2 76 = some (arr 0 12 nm) ∧ RI g s hist (setT x ((L : Int), O, T, H)) flt ∧ (∀ t, t < sn s → nm t = jn O T L t) ∧ TR kd (sW s) (sn s) O T H L ∧ FM h g) (sn s - 1) (fun r => ∃ (h' : Hp) (O T H : Nat → Int), r = some (((sn s - 1 : Nat) : Int), h') ∧ RI h' s hist (setT x (((sn s - 1 : Nat) : Int), O, T, H)) flt ∧ TR kd (sW s) (sn s) O T H (sn s - 1) ∧ FM h h') ?_ ?_ FU 0 _ (Nat.zero_le _) (FU_lt (by omega)) ⟨O0, T0, H0, F1, (hput_ne (by omega)).trans w1, (hput_ne (by omega)).trans w2, (hput_ne (by omega)).trans w3, (hput_ne (by omega)).trans m1, R2, q1, fun i hi => by omega, (FM.of Fr1 (fun k hk => by omega)).tr (FM.put (q := 62) (by omega))⟩
  · intro N L g hL ⟨O, T, H, nm, a1, a2, a3, a4, a5, a6, a7, a8⟩
    obtain ⟨pa, fp, sm, o⟩ := a5.obj
    have o : g.2 62 = some (MO pa fp x.1.1 sm (L : Int) (x.2.2.2.1 : Int) flt) := o
    obtain ⟨qq, hqq⟩ := a7.pair (by omega)
    obtain ⟨p, q, v, e2, hlow⟩ := r_low a5 G (kd := kd) a4 ⟨qq, hqq.1, hqq.2.1, by rw [a6 0 (by omega)]; exact hqq.2.2.1, by rw [a6 qq hqq.2.1]; exact hqq.2.2.2⟩ (fX12_tree_48 N)
    have hlow2 : isLow kd (sW s) (sn s) (jn O T L) p q v := hlow.congr a6
    -- the rows are written
    have W4 : ∃ g4, fX12_tree_170 (fX12_tree_48 N) 62 kd p q v g = fX12_tree_214 (fX12_tree_48 N) FU 62 kd p q 0 g4 ∧ g4.2 70 = some (arr 0 12 (ups O L p)) ∧ g4.2 71 = some (arr 0 12 (ups T L q)) ∧ g4.2 72 = some (arr 0 12 (ups H L v)) ∧ g4.2 76 = some (arr 0 12 nm) ∧ RI g4 s hist (setT x (((L + 1 : Nat) : Int), ups O L p, ups T L q, ups H L v)) flt ∧ FM g g4 := by
      refine ⟨hput (hput (hput (hput g 70 (arr 0 12 (ups O L p))) 71 (arr 0 12 (ups T L q))) 72 (arr 0 12 (ups H L v))) 62 (MO pa fp x.1.1 sm ((L + 1 : Nat) : Int) (x.2.2.2.1 : Int) flt), ?_, (hput_ne (by omega)).trans ((hput_ne (by omega)).trans ((hput_ne (by omega)).trans hput_eq)), (hput_ne (by omega)).trans ((hput_ne (by omega)).trans hput_eq), (hput_ne (by omega)).trans hput_eq, (hput_ne (by omega)).trans ((hput_ne (by omega)).trans ((hput_ne (by omega)).trans ((hput_ne (by omega)).trans a4))), ?_, (((FM.put (q := 70) (by omega)).tr (FM.put (q := 71) (by omega))).tr (FM.put (q := 72) (by omega))).tr (FM.put (q := 62) (by omega))⟩
      · unfold fX12_tree_170
        rw [gR 12 o rfl, ob, gI 11 o rfl, ob, ast_of L a1 rfl (by omega), ob, gR 13 ((hput_ne (by omega)).trans o) rfl, ob, gI 11 ((hput_ne (by omega)).trans o) rfl, ob, ast_of L ((hput_ne (by omega)).trans a2) rfl (by omega), ob, gR 14 ((hput_ne (by omega)).trans ((hput_ne (by omega)).trans o)) rfl, ob, gI 11 ((hput_ne (by omega)).trans ((hput_ne (by omega)).trans o)) rfl, ob, ast_of L ((hput_ne (by omega)).trans ((hput_ne (by omega)).trans a3)) rfl (by omega), ob, gI 11 ((hput_ne (by omega)).trans ((hput_ne (by omega)).trans ((hput_ne (by omega)).trans o))) rfl, ob, c32_n (by omega) (by omega), ob, show (L : Int) + 1 = ((L + 1 : Nat) : Int) from rfl,
          pV (fs' := [vr 63, vr 64, vr 65, vr 66, vr 67, vr 68, vi pa, vi fp, vi x.1.1, vi sm, vr 69, vi ((L + 1 : Nat) : Int), vr 70, vr 71, vr 72, vr 73, vr 74, vr 75, vi (x.2.2.2.1 : Int), vi flt, vr 76, vr 77, vr 78, vr 79, vr 80]) 11 ((hput_ne (by omega)).trans ((hput_ne (by omega)).trans ((hput_ne (by omega)).trans o))) (by simp) rfl, ob]
      · exact a5.sett (y := (((L + 1 : Nat) : Int), ups O L p, ups T L q, ups H L v)) o ((((Fr.rf.put (by omega)).put (by omega)).put (by omega)).put (by omega)) hput_eq ⟨ups O L p, ups T L q, ups H L v, (hput_ne (by omega)).trans ((hput_ne (by omega)).trans ((hput_ne (by omega)).trans hput_eq)), (hput_ne (by omega)).trans ((hput_ne (by omega)).trans hput_eq), (hput_ne (by omega)).trans hput_eq, fun _ _ => rfl, fun _ _ => rfl, fun _ _ => rfl⟩
    obtain ⟨g4, e4, b1, b2, b3, b4, b5, b6⟩ := W4
    obtain ⟨g5, nm', e5, c4, c6, c5, c8⟩ := r_ren b5 hn b4 (fX12_tree_48 N) kd p q
    have ej : ∀ t, jn (ups O L p) (ups T L q) L t = jn O T L t := fun t => jn_congr (m := L) (fun i hi => by rw [ups_at, if_neg (by omega)]) (fun i hi => by rw [ups_at, if_neg (by omega)]) t L (Nat.le_refl _)
    refine ⟨g5, ⟨ups O L p, ups T L q, ups H L v, nm', (c8.2 70 (by omega)).trans b1, (c8.2 71 (by omega)).trans b2, (c8.2 72 (by omega)).trans b3, c4, c5, fun t ht => ?_, fun i hi => ?_, a8.tr (b6.tr (FM.of c8 (fun k hk => by omega)))⟩, ?_⟩
    · rw [c6 t ht, jn_s (p := p) (q := q) (by simp [ups_at]) (by simp [ups_at]) t, ej t, a6 t ht]
    · by_cases z : i = L
      · subst z
        refine ⟨p, q, by simp [ups_at], by simp [ups_at], ?_⟩
        have : ups H i v i = v := by simp [ups_at]
        rw [this]
        exact hlow2.congr (fun t _ => (ej t).symm)
      · have := a7.congr (O' := ups O L p) (T' := ups T L q) (H' := ups H L v) (fun j hj => by rw [ups_at, if_neg (by omega)]) (fun j hj => by rw [ups_at, if_neg (by omega)]) (fun j hj => by rw [ups_at, if_neg (by omega)])
        exact this i (by omega)
    · show fX12_tree_48 (N + 1) 62 kd g = _
      rw [fX12_tree_48, gI 11 o rfl, ob, a5.nb]
      simp only []
      rw [c32_n (by omega) (by omega), ob, if_neg (by omega), e2, e4, e5]
  · intro N g ⟨O, T, H, nm, a1, a2, a3, a4, a5, a6, a7, a8⟩
    obtain ⟨pa, fp, sm, o⟩ := a5.obj
    have o : g.2 62 = some (MO pa fp x.1.1 sm ((sn s - 1 : Nat) : Int) (x.2.2.2.1 : Int) flt) := o
    show ∃ (h' : Hp) (O T H : Nat → Int), fX12_tree_48 (N + 1) 62 kd g = _ ∧ _
    rw [fX12_tree_48, gI 11 o rfl, ob, a5.nb]
    simp only []
    rw [c32_n (by omega) (by omega), ob, if_pos (by omega), fX12_tree_251, gI 11 o rfl, ob]
    exact ⟨g, O, T, H, rfl, a5, a7, a8⟩
end
theorem both_tree {h : Hp} (B : Both h) (a : Int) : ∃ r h1 h2, fX11_tree 1 a h = some (r, h1) ∧ fX12_tree 62 a h1 = some (r, h2) ∧ Both h2 := by
  obtain ⟨s, hist, x, flt, G, C, R⟩ := B
  have hn := G.1.2.1
  have hn1 := G.1.1
  unfold fX11_tree fX12_tree
  simp only [fX11_tree_9, fX12_tree_14]
  by_cases e : 0 ≤ a ∧ a ≤ 1
  · obtain ⟨kd, rfl⟩ := Int.eq_ofNat_of_zero_le e.1
    have C1 := C.set 0
    obtain ⟨h1, O, T, H, e1, C2, T1, F1⟩ := c_grow C1 G.1 (kd := kd) (by omega)
    obtain ⟨sz, hl, O', T', H', B', u0, -⟩ := C1.tre
    obtain ⟨sz2, hl2, O2, T2, H2, B2, v0, -⟩ := C2.tre
    obtain ⟨h2, e2, R2, F2⟩ := (R.ag ((FC.put (q := 1) (by omega)).tr F1)).set 0
    obtain ⟨h3, O3, T3, H3, e3, R3, TT, F3⟩ := r_tree R2 G.1 (kd := kd)
    obtain ⟨q1, q2, q3⟩ := TT.uq T1
    have R4 : RI h3 s hist (setT x (((sn s - 1 : Nat) : Int), O, T, H)) 0 := by
      obtain ⟨w0, w1, ⟨O4, T4, H4, y1, y2, y3, y4, y5, y6⟩, w3⟩ := R3
      have y4 : Eqn (sn s - 1) O4 O3 := y4
      have y5 : Eqn (sn s - 1) T4 T3 := y5
      have y6 : Eqn (sn s - 1) H4 H3 := y6
      exact ⟨w0, w1, ⟨O4, T4, H4, y1, y2, y3, fun i hi => (y4 i hi).trans (q1 i hi), fun i hi => (y5 i hi).trans (q2 i hi), fun i hi => (y6 i hi).trans (q3 i hi)⟩, w3⟩
    have tb := T1.bd hn G.1.wok
    refine ⟨((sn s - 1 : Nat) : Int), h1, h3, ?_, ?_, bo (show Good s hist (setT x (((sn s - 1 : Nat) : Int), O, T, H)) from ⟨G.1, G.2.1, G.2.2.1, Or.inr ⟨by show ((sn s - 1 : Nat) : Int) = (sn s : Int) - 1; omega, tb⟩, G.2.2.2.2⟩) C2 (F2.tr F3) R4⟩
    · rw [if_neg (by omega), if_pos (by omega), C.put1 0, ob, gR 3 C1.1 rfl, ob, gR 0 C1.1 rfl, ob, co u0, ob, e1, ob, gR 3 C2.1 rfl, ob, gI 0 v0 rfl, ob]; rfl
    · rw [e2, ob, if_neg (by omega), if_pos (by omega), e3]
  · obtain ⟨h2, h3, e2, R2, e3, B3⟩ := refuse2 G C R 1
    refine ⟨-1, hput h 1 (BO 1), h3, ?_, ?_, B3⟩
    · by_cases e1 : a < 0
      · rw [if_pos e1, co C.1, ob, c_refuse C 1, ob]
      · rw [if_neg e1, if_neg (by omega), co C.1, ob, c_refuse C 1, ob]
    · rw [e2, ob]
      by_cases e1 : a < 0
      · rw [if_pos e1, R2.cb, ob, e3, ob]
      · rw [if_neg e1, if_neg (by omega), R2.cb, ob, e3, ob]
