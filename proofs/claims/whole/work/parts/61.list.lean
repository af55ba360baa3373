def setL (x : Aux) (y : Nat × (Nat → Int)) : Aux := (x.1, x.2.1, x.2.2.1, y)
section
variable {h h' : Hp} {s : Scn} {hist : List Scn} {x : Aux} {flt : Int}
theorem CI.tol {y : Nat × (Nat → Int)} (C : CI h s hist x flt) (F : Fr (pts 20) h h') (N : CTol h' y) : CI h' s hist (setL x y) flt := by
  obtain ⟨c1, c2, ⟨A, nx, c3⟩, c4, c5, c6, c7, c8, c9⟩ := C
  have e : ∀ k, k < 20 ∨ 22 < k → h'.2 k = h.2 k := fun k z => F.2 k (by intro y; rcases y with y | y | y <;> omega)
  exact ⟨(e _ (by omega)).trans c1, c2.ag (fun j hj => e j (by obtain ⟨z1, z2⟩ := hj; omega)), ⟨A, nx, c3.ag F.1 (fun k hk => e k (by omega))⟩, c4.ag (fun k hk => e k (by omega)), c5.ag (fun k hk => e k (by omega)), c6.ag (fun k hk => e k (by omega)), N, c8.ag (fun k hk => e k (by omega)), c9.ag (fun k hk => e k (by omega))⟩
theorem RI.lst {y : Nat × (Nat → Int)} {pa fp : Nat} {sm : Int} {r : Nat → Int} (R : RI h s hist x flt) (o : h.2 62 = some (MO pa fp x.1.1 sm x.2.1.1 (x.2.2.2.1 : Int) flt)) (F : Fr (fun j => j = 62 ∨ j = 75) h h') (o' : h'.2 62 = some (MO pa fp x.1.1 sm x.2.1.1 (y.1 : Int) flt)) (e : h'.2 75 = some (arr 0 12 r)) (q : Eqn y.1 r y.2) : RI h' s hist (setL x y) flt := by
  obtain ⟨⟨pa', fp', sm', Z, P, W, X, K, N, a1, ⟨m0, m1, m2, m3, m4, m5⟩, a3, a4, a5⟩, ⟨E0, b1, b2⟩, ⟨O, T, H, d1, d2, d3, d4⟩, ⟨r1, r2, e1, e2, e3⟩, ⟨r', f1, f2⟩, ⟨q1', q2', q3, q4, q5, g1, g2, g3, g4, g5⟩⟩ := R
  have kk : ∀ j, j ≠ 62 → j ≠ 75 → h'.2 j = h.2 j := fun j z1 z2 => F.2 j (by omega)
  have eo : pa' = pa ∧ fp' = fp ∧ sm' = sm := by
    have a1' := o.symm.trans a1
    simp [MO] at a1'
    omega
  obtain ⟨rfl, rfl, rfl⟩ := eo
  exact ⟨⟨pa', fp', sm', Z, P, W, X, K, N, o', ⟨(kk _ (by omega) (by omega)).trans m0, (kk _ (by omega) (by omega)).trans m1, (kk _ (by omega) (by omega)).trans m2, (kk _ (by omega) (by omega)).trans m3, (kk _ (by omega) (by omega)).trans m4, (kk _ (by omega) (by omega)).trans m5⟩, a3, a4, a5⟩, ⟨E0, (kk _ (by omega) (by omega)).trans b1, b2⟩, ⟨O, T, H, (kk _ (by omega) (by omega)).trans d1, (kk _ (by omega) (by omega)).trans d2, (kk _ (by omega) (by omega)).trans d3, d4⟩, ⟨r1, r2, (kk _ (by omega) (by omega)).trans e1, (kk _ (by omega) (by omega)).trans e2, e3⟩, ⟨r, e, q⟩, ⟨q1', q2', q3, q4, q5, (kk _ (by omega) (by omega)).trans g1, (kk _ (by omega) (by omega)).trans g2, (kk _ (by omega) (by omega)).trans g3, (kk _ (by omega) (by omega)).trans g4, (kk _ (by omega) (by omega)).trans g5⟩⟩
theorem RI.li (R : RI h s hist x flt) : ∃ r, h.2 75 = some (arr 0 12 r) ∧ Eqn x.2.2.2.1 r x.2.2.2.2 := R.2.2.2.2.1
/-- the list is empty -/
theorem RI.nol (R : RI h s hist x flt) : ∃ h', putV h 11 62 18 (vi 0) = some h' ∧ RI h' s hist (setL x (0, fun _ => 0)) flt ∧ Fr (fun j => j = 62) h h' := by
  obtain ⟨pa, fp, sm, o⟩ := R.obj
  obtain ⟨r, e, -⟩ := R.li
  refine ⟨hput h 62 (MO pa fp x.1.1 sm x.2.1.1 0 flt), pV 18 o (by simp) rfl, R.lst (y := (0, fun _ => 0)) o (Fr.rf.put (Or.inl rfl)) hput_eq ((hput_ne (by omega)).trans e) (fun i hi => by have : i < 0 := hi; omega), Fr.rf.put rfl⟩
theorem r_takeList (R : RI h s hist x flt) (hn : sn s ≤ 12) :
    (x.2.2.2.1 = sn s → ∃ h' g F, fX12_takeList 62 h = some (1, h') ∧ h'.2 76 = some (arr 0 12 F) ∧ Eqn (sn s) F g ∧ RN (sn s) x.2.2.2.2 g ∧ RI h' s hist x flt ∧ Fr (fun k => k = 76 ∨ k = 78) h h') ∧ (x.2.2.2.1 ≠ sn s → fX12_takeList 62 h = some (0, h)) := by
  obtain ⟨pa, fp, sm, o⟩ := R.obj
  constructor
  · intro hl
    obtain ⟨r1, r2, r3, r4, r5, s1, s2, s3, s4, s5⟩ := R.scr
    have L : ∃ h' F, fX12_takeList_15 FU 62 0 h = fX12_takeList_41 62 h' ∧ h'.2 76 = some (arr 0 12 F) ∧ Eqn (sn s) F x.2.2.2.2 ∧ RI h' s hist x flt ∧ Fr (fun k => k = 76 ∨ k = 78) h h' := by
      refine lp (fun N i (s' : Hp) => fX12_takeList_15 N 62 i s') (fun i s' => ∃ F, s'.2 76 = some (arr 0 12 F) ∧ Eqn i F x.2.2.2.2 ∧ RI s' s hist x flt ∧ Fr (fun k => k = 76 ∨ k = 78) h s') (sn s) (fun o => ∃ h' F, o = fX12_takeList_41 62 h' ∧ h'.2 76 = some (arr 0 12 F) ∧ Eqn (sn s) F x.2.2.2.2 ∧ RI h' s hist x flt ∧ Fr (fun k => k = 76 ∨ k = 78) h h') ?_ ?_ FU 0 h (Nat.zero_le _) (FU_lt (by omega)) ⟨r1, s1, fun j hj => by omega, R, Fr.rf⟩
      · intro N i s' hi ⟨F, a1, a2, a3, a5⟩
        obtain ⟨pa, fp, sm, o⟩ := a3.obj
        obtain ⟨r, m, q⟩ := a3.li
        simp only [fX12_takeList_15]
        rw [a3.nb, if_neg (by show ¬ (sn s : Int) ≤ i; omega), gR 20 o rfl, ob, gR 17 o rfl, ob, ald_of i m rfl (by omega), ob, ast_of i a1 rfl (by omega), ob, c32_n (by omega) (by omega), ob]
        refine ⟨_, ⟨_, hput_eq, fun j hj => ?_, a3.pu (by omega) _, a5.put (Or.inl rfl)⟩, rfl⟩
        rw [ups_at]
        by_cases z : j = i
        · subst z; simp [q j (by omega)]
        · rw [if_neg z]; exact a2 j (by omega)
      · intro N s' ⟨F, a1, a2, a3, a5⟩
        simp only [fX12_takeList_15]
        rw [a3.nb, if_pos (by show (sn s : Int) ≤ sn s; omega)]
        exact ⟨s', F, rfl, a1, a2, a3, a5⟩
    obtain ⟨h1, F, e1, m1, q1, R1, F1⟩ := L
    obtain ⟨h2, g, F2, e2, m2, q2, N2, R2, Fr2⟩ := r_number R1 hn m1
    obtain ⟨pa1, fp1, sm1, o1⟩ := R1.obj
    refine ⟨h2, g, F2, ?_, m2, q2, ⟨N2.1, fun i j hi hj => by rw [N2.2 i j hi hj, q1 i hi, q1 j hj]⟩, R2, F1.tr Fr2⟩
    unfold fX12_takeList
    rw [gI 18 o rfl, ob, R.nb, if_pos (by show (x.2.2.2.1 : Int) = sn s; omega), e1]
    unfold fX12_takeList_41
    rw [gR 20 o1 rfl, ob, R1.cb, ob, e2, ob]
  · intro hl
    unfold fX12_takeList
    rw [gI 18 o rfl, ob, R.nb, if_neg (by show ¬ (x.2.2.2.1 : Int) = sn s; omega)]
end
theorem both_tell {h : Hp} (B : Both h) (a : Int) : ∃ r h1 h2, fX11_tell 1 a h = some (r, h1) ∧ fX12_tell 62 a h1 = some (r, h2) ∧ Both h2 := by
  obtain ⟨s, hist, x, flt, G, C, R⟩ := B
  obtain ⟨k, f, Pt, ef⟩ := C.2.2.2.2.2.2.1
  have hl := G.2.2.2.2.2.1
  have hv := G.2.2.2.2.2.2
  unfold fX11_tell fX12_tell
  simp only [fX11_tell_22, fX12_tell_24]
  by_cases e : (0 ≤ a ∧ a ≤ 11) ∧ x.2.2.2.1 < 12
  · obtain ⟨e1, e2⟩ := e
    have C1 := C.set 0
    obtain ⟨k1, f1, ⟨p0, p1, gg, p2⟩, ef1⟩ := C1.2.2.2.2.2.2.1
    have F1 : Fr (pts 20) (hput h 1 (BO 0)) (hput (hput (hput h 1 (BO 0)) 21 (arr 0 12 (ups f1 x.2.2.2.1 a))) 20 (obj 5 [vi ((x.2.2.2.1 + 1 : Nat) : Int), vi k1, vr 21, vr 22])) := (Fr.rf.put (Or.inr (Or.inl rfl))).put (Or.inl rfl)
    have ups1 : ∀ {F F' : Nat → Int} {n : Nat}, Eqn n F F' → Eqn (n + 1) (ups F n a) (ups F' n a) := by
      intro F F' n hz j hj
      rw [ups_at, ups_at]; by_cases y : j = n
      · rw [if_pos y, if_pos y]
      · rw [if_neg y, if_neg y]; exact hz j (by omega)
    have C2 := C1.tol (y := (x.2.2.2.1 + 1, ups x.2.2.2.2 x.2.2.2.1 a)) F1 ⟨k1, ups f1 x.2.2.2.1 a, ⟨hput_eq, (hput_ne (by omega)).trans hput_eq, gg, (hput_ne (by omega)).trans ((hput_ne (by omega)).trans p2)⟩, ups1 ef1⟩
    obtain ⟨h2, e3, R2, F2⟩ := (R.ag ((FC.put (q := 1) (by omega)).tr (FC.of F1 (fun k hk => by rcases hk with z | z | z <;> omega)))).set 0
    obtain ⟨pa, fp, sm, o⟩ := R2.obj
    obtain ⟨r, m, q⟩ := R2.li
    have R3 := R2.lst (y := (x.2.2.2.1 + 1, ups x.2.2.2.2 x.2.2.2.1 a)) (h' := hput (hput h2 75 (arr 0 12 (ups r x.2.2.2.1 a))) 62 (MO pa fp x.1.1 sm x.2.1.1 ((x.2.2.2.1 + 1 : Nat) : Int) 0)) o ((Fr.rf.put (Or.inr rfl)).put (Or.inl rfl)) hput_eq ((hput_ne (by omega)).trans hput_eq) (ups1 q)
    refine ⟨((x.2.2.2.1 + 1 : Nat) : Int), hput (hput (hput h 1 (BO 0)) 21 (arr 0 12 (ups f1 x.2.2.2.1 a))) 20 (obj 5 [vi ((x.2.2.2.1 + 1 : Nat) : Int), vi k1, vr 21, vr 22]), hput (hput h2 75 (arr 0 12 (ups r x.2.2.2.1 a))) 62 (MO pa fp x.1.1 sm x.2.1.1 ((x.2.2.2.1 + 1 : Nat) : Int) 0), ?_, ?_, bo (show Good s hist (setL x (x.2.2.2.1 + 1, ups x.2.2.2.2 x.2.2.2.1 a)) from ⟨G.1, G.2.1, G.2.2.1, G.2.2.2.1, G.2.2.2.2.1, by show x.2.2.2.1 + 1 ≤ 12; omega, fun i hi => ?_⟩) C2 (F2.tr ((FM.put (q := 75) (by omega)).tr (FM.put (q := 62) (by omega)))) R3⟩
    · rw [if_neg (by omega), if_neg (by omega), gR 5 C.1 rfl, ob, gI 0 Pt.1 rfl, ob, if_pos (by omega), C.put1 0, ob, gR 5 C1.1 rfl, ob, gR 2 p0 rfl, ob, ob, gI 0 p0 rfl, ob, ast_of x.2.2.2.1 p1 rfl (by omega), ob, gR 5 ((hput_ne (by omega)).trans C1.1) rfl, ob, gI 0 ((hput_ne (by omega)).trans p0) rfl, ob, c32_n (by omega) (by omega), ob, show (x.2.2.2.1 : Int) + 1 = ((x.2.2.2.1 + 1 : Nat) : Int) from rfl,
        pV (fs' := [vi ((x.2.2.2.1 + 1 : Nat) : Int), vi k1, vr 21, vr 22]) 0 ((hput_ne (by omega)).trans p0) (by simp) rfl, ob, gR 5 ((hput_ne (by omega)).trans ((hput_ne (by omega)).trans C1.1)) rfl, ob, gI 0 hput_eq rfl, ob]
    · rw [e3, ob, if_neg (by omega), if_neg (by omega), gI 18 o rfl, ob, if_neg (by omega), gR 17 o rfl, ob, ob, ast_of x.2.2.2.1 m rfl (by omega), ob, gI 18 ((hput_ne (by omega)).trans o) rfl, ob, c32_n (by omega) (by omega), ob, show (x.2.2.2.1 : Int) + 1 = ((x.2.2.2.1 + 1 : Nat) : Int) from rfl, pV (fs' := [vr 63, vr 64, vr 65, vr 66, vr 67, vr 68, vi pa, vi fp, vi x.1.1, vi sm, vr 69, vi x.2.1.1, vr 70, vr 71, vr 72, vr 73, vr 74, vr 75, vi ((x.2.2.2.1 + 1 : Nat) : Int), vi 0, vr 76, vr 77, vr 78, vr 79, vr 80]) 18 ((hput_ne (by omega)).trans o) (by simp) rfl, ob, gI 18 hput_eq rfl, ob]
    · have hi : i < x.2.2.2.1 + 1 := hi
      show 0 ≤ ups x.2.2.2.2 x.2.2.2.1 a i ∧ ups x.2.2.2.2 x.2.2.2.1 a i ≤ 11
      rw [ups_at]; split
      · exact e1
      · exact hv i (by omega)
  · obtain ⟨h2, h3, e2, R2, e3, B3⟩ := refuse2 G C R 1
    obtain ⟨pa, fp, sm, o⟩ := R2.obj
    refine ⟨-1, hput h 1 (BO 1), h3, ?_, ?_, B3⟩
    · by_cases a1 : a < 0
      · rw [if_pos a1, co C.1, ob, c_refuse C 1, ob]
      · rw [if_neg a1]
        by_cases a2 : 12 ≤ a
        · rw [if_pos a2, co C.1, ob, c_refuse C 1, ob]
        · rw [if_neg a2, gR 5 C.1 rfl, ob, gI 0 Pt.1 rfl, ob, if_neg (by omega), co C.1, ob, c_refuse C 1, ob]
    · rw [e2, ob]
      by_cases a1 : a < 0
      · rw [if_pos a1, R2.cb, ob, e3, ob]
      · rw [if_neg a1]
        by_cases a2 : 11 < a
        · rw [if_pos a2, R2.cb, ob, e3, ob]
        · rw [if_neg a2, gI 18 o rfl, ob, if_pos (by omega), R2.cb, ob, e3, ob]
