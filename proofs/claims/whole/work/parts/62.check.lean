theorem r_changeK {h : Hp} {s : Scn} {hist : List Scn} {x : Aux} {flt : Int} (R : RI h s hist x flt) (G : Good s hist x) : ∃ h', fX12_change 62 h = some h' ∧ RI h' s ((s :: hist).take 20) x flt ∧ FM h h' ∧ ∀ j, 69 ≤ j → h'.2 j = h.2 j := by
  obtain ⟨⟨pa, fp, sm, Z, P, W, X, K, N, a1, a2, a3, a4, a5⟩, ⟨E, b1, b2⟩, ⟨O, T, H, d1, d2, d3, d4⟩, ⟨r1, r2, e1, e2, e3⟩, ⟨r, f1, f2⟩, ⟨q1, q2, q3, q4, q5, g1, g2, g3, g4, g5⟩⟩ := R
  obtain ⟨h', pa', fp', Z', P', W', X', K', N', e, u1, u2, u3, u4, F⟩ := change_ok G.1.2.1 G.1.2.2.2.2.2.2.2.2.2.1 (fun y hy => (G.2.1 y hy).2.1) a1 a2 a3 a4
  have k : ∀ j, 69 ≤ j → h'.2 j = h.2 j := fun j hj => F.2 j (by omega)
  exact ⟨h', e, ⟨⟨pa', fp', sm, Z', P', W', X', K', N', u1, u2, u3, u4, a5⟩, ⟨E, (k _ (by omega)).trans b1, b2⟩, ⟨O, T, H, (k _ (by omega)).trans d1, (k _ (by omega)).trans d2, (k _ (by omega)).trans d3, d4⟩, ⟨r1, r2, (k _ (by omega)).trans e1, (k _ (by omega)).trans e2, e3⟩, ⟨r, (k _ (by omega)).trans f1, f2⟩, ⟨q1, q2, q3, q4, q5, (k _ (by omega)).trans g1, (k _ (by omega)).trans g2, (k _ (by omega)).trans g3, (k _ (by omega)).trans g4, (k _ (by omega)).trans g5⟩⟩, ⟨F.1, fun j hj => F.2 j (by omega)⟩, k⟩
theorem both_check {h : Hp} (B : Both h) (a v : Int) : ∃ r h1 h2, fX11_check 1 a v h = some (r, h1) ∧ fX12_check 62 a v h1 = some (r, h2) ∧ Both h2 := by
  obtain ⟨s, hist, x, flt, G, C, R⟩ := B
  have hn := G.1.2.1
  have hl := G.2.2.2.2.2.1
  have hv := G.2.2.2.2.2.2
  unfold fX11_check fX12_check
  rw [c_isGoal, ob]
  by_cases e : 0 ≤ a ∧ a ≤ 3
  · have C1 := C.set 0
    obtain ⟨k1, f1, Pt, ef1⟩ := C1.2.2.2.2.2.2.1
    obtain ⟨h2, g, e2, P2, N2, F2⟩ := renumber_ok hl Pt (fun i hi => by rw [ef1 i hi]; have := hv i hi; omega)
    have C2 := C1.tol (y := (x.2.2.2.1, g)) F2 ⟨_, g, P2, fun _ _ => rfl⟩
    have F3 : Fr (pts 20) h2 (hput h2 20 (obj 5 [vi 0, vi (mx g x.2.2.2.1), vr 21, vr 22])) := Fr.rf.put (Or.inl rfl)
    obtain ⟨p0, p1, gg, p2⟩ := id P2
    have C3 := C1.tol (y := (0, fun _ => 0)) (F2.tr F3) ⟨mx g x.2.2.2.1, g, ⟨hput_eq, (hput_ne (by omega)).trans p1, gg, (hput_ne (by omega)).trans p2⟩, fun i hi => by have : i < 0 := hi; omega⟩
    have FCa : FC h (hput h2 20 (obj 5 [vi 0, vi (mx g x.2.2.2.1), vr 21, vr 22])) := (FC.put (q := 1) (by omega)).tr (FC.of (F2.tr F3) (fun k hk => by rcases hk with z | z | z <;> omega))
    obtain ⟨h3, e3, R3, Fm3⟩ := (R.ag FCa).set 0
    have G3 : Good s hist (setL x (0, fun _ => 0)) := ⟨G.1, G.2.1, G.2.2.1, G.2.2.2.1, G.2.2.2.2.1, by show 0 ≤ 12; omega, fun i hi => by have : i < 0 := hi; omega⟩
    by_cases el : x.2.2.2.1 = sn s
    · obtain ⟨h4, g', F4, e4, m4, q4, N4, R4, Fr4⟩ := (r_takeList R3 hn).1 el
      obtain ⟨h5, e5, R5, Fr5⟩ := R4.nol
      obtain ⟨h6, U, e6, u6, q6, R6, Fr6⟩ := r_useWays R5
      obtain ⟨pa, fp, sm, o6⟩ := R6.obj
      have m6 : h6.2 76 = some (arr 0 12 F4) := (Fr6.2 76 (by omega)).trans ((Fr5.2 76 (by omega)).trans m4)
      have N2' : RN (sn s) f1 g := el ▸ N2
      have eg : Eqn (sn s) g g' := RN.same N2' N4 (fun i j hi hj => by rw [ef1 i (by omega), ef1 j (by omega)])
      have P2' : isPt h2 20 (sn s) (mx g (sn s)) g := el ▸ P2
      have ec := c_cost C2 G.1 a P2' N2'.1
      have er := r_cost R6 G.1 m6 (by omega) u6 q6 (N4.1.congr (fun i hi => (q4 i hi).symm)) e
      have ee : cst (sn s) (sW s) (sX s) (sK s) a F4 = cst (sn s) (sW s) (sX s) (sK s) a g := cst_congr hn (fun _ _ => rfl) (fun _ _ => rfl) (fun _ _ => rfl) (fun i hi => (q4 i hi).trans (eg i hi).symm) a
      have FMa : FM (hput h2 20 (obj 5 [vi 0, vi (mx g x.2.2.2.1), vr 21, vr 22])) h6 := Fm3.tr ((FM.of Fr4 (fun k hk => by omega)).tr ((FM.of Fr5 (fun k hk => by omega)).tr (FM.of Fr6 (fun k hk => by omega))))
      refine ⟨if cst (sn s) (sW s) (sX s) (sK s) a g = v then 2 else 1, hput h2 20 (obj 5 [vi 0, vi (mx g x.2.2.2.1), vr 21, vr 22]), h6, ?_, ?_, bo G3 C3 FMa R6⟩
      · rw [if_pos e, if_neg one0, C.put1 0, ob, gR 5 C1.1 rfl, ob, gI 0 Pt.1 rfl, ob, ob, co Pt.1, ob, e2, ob, gR 0 C2.1 rfl, ob, gI 0 C2.now rfl, ob, if_pos (by omega), ob, gR 5 C2.1 rfl, ob, ec, ob]
        simp only [fX11_check_62, fX11_check_98, lCmp_eq]
        rw [gR 5 C2.1 rfl, ob, pV (fs' := [vi 0, vi (mx g x.2.2.2.1), vr 21, vr 22]) 0 P2.1 (by simp) rfl, ob, gR 0 C3.1 rfl, ob, gI 0 C3.now rfl, ob, if_pos (by omega)]
        split <;> rfl
      · rw [e3, ob, r_isGoal, ob, if_pos e, if_neg one0, R3.cb, ob, e4, ob, e5, ob, if_neg one0, R5.cb, ob, e6, ob, gR 20 o6 rfl, ob, R6.cb, ob, er, ob, ee]
        simp only [fX12_check_59, lCmp_eq]
        split <;> rfl
    · have e4 := (r_takeList R3 hn).2 el
      obtain ⟨h5, e5, R5, Fr5⟩ := R3.nol
      refine ⟨0, hput h2 20 (obj 5 [vi 0, vi (mx g x.2.2.2.1), vr 21, vr 22]), h5, ?_, ?_, bo G3 C3 (Fm3.tr (FM.of Fr5 (fun k hk => by omega))) R5⟩
      · rw [if_pos e, if_neg one0, C.put1 0, ob, gR 5 C1.1 rfl, ob, gI 0 Pt.1 rfl, ob, ob, co Pt.1, ob, e2, ob, gR 0 C2.1 rfl, ob, gI 0 C2.now rfl, ob, if_neg (by omega)]
        simp only [fX11_check_62, fX11_check_98, lCmp_eq]
        rw [gR 5 C2.1 rfl, ob, pV (fs' := [vi 0, vi (mx g x.2.2.2.1), vr 21, vr 22]) 0 P2.1 (by simp) rfl, ob, gR 0 C3.1 rfl, ob, gI 0 C3.now rfl, ob, if_neg (by omega)]
      · rw [e3, ob, r_isGoal, ob, if_pos e, if_neg one0, R3.cb, ob, e4, ob, e5, ob, if_pos rfl]
  · obtain ⟨h2, h3, e2, R2, e3, B3⟩ := refuse2 G C R 1
    refine ⟨-1, hput h 1 (BO 1), h3, ?_, ?_, B3⟩
    · rw [if_neg e, if_pos rfl, co C.1, ob, c_refuse C 1, ob]
    · rw [e2, ob, r_isGoal, ob, if_neg e, if_pos rfl, R2.cb, ob, e3, ob]
theorem both_load {h : Hp} (B : Both h) : ∃ r h1 h2, fX11_load 1 h = some (r, h1) ∧ fX12_load 62 h1 = some (r, h2) ∧ Both h2 := by
  obtain ⟨s, hist, x, flt, G, C, R⟩ := B
  have hn := G.1.2.1
  have hl := G.2.2.2.2.2.1
  have hv := G.2.2.2.2.2.2
  obtain ⟨k0, f0, Pt0, ef0⟩ := C.2.2.2.2.2.2.1
  unfold fX11_load fX12_load
  by_cases el : x.2.2.2.1 = sn s
  · obtain ⟨h1, e1, C1, F1⟩ := c_change C hn
    obtain ⟨f, Pp, ef⟩ := C1.par
    obtain ⟨k1, f1, Pt, ef1⟩ := C1.2.2.2.2.2.2.1
    obtain ⟨h2, f2, e2, P2, q2, F2⟩ := ptCopy_ok Pp Pt (by omega)
    have P2' : isPt h2 7 (sn s) k1 f2 := el ▸ P2
    obtain ⟨h3, g, e3, P3, N3, F3⟩ := renumber_ok hn P2' (fun i hi => by rw [q2 i (by omega), ef1 i (by omega)]; have := hv i (by omega); omega)
    have FA : Fr (fun k => 7 ≤ k ∧ k ≤ 9) h1 h3 := (F2.tr F3).mono (fun k hk => by rcases hk with z | z | z <;> omega)
    have C3 := C1.setp FA P3
    have Pt3 : isPt h3 20 x.2.2.2.1 k1 f1 := Pt.ag (fun j z1 z2 => FA.2 j (by omega))
    obtain ⟨p0, p1, gg, p2⟩ := Pt3
    have F4 : Fr (pts 20) h3 (hput h3 20 (obj 5 [vi 0, vi k1, vr 21, vr 22])) := Fr.rf.put (Or.inl rfl)
    have C4 := C3.tol (y := (0, fun _ => 0)) F4 ⟨k1, f1, ⟨hput_eq, (hput_ne (by omega)).trans p1, gg, (hput_ne (by omega)).trans p2⟩, fun i hi => by have : i < 0 := hi; omega⟩
    have FCa : FC h (hput h3 20 (obj 5 [vi 0, vi k1, vr 21, vr 22])) := F1.tr ((FC.of FA (fun k hk => by omega)).tr (FC.put (q := 20) (by omega)))
    obtain ⟨h5, e5, R5, Fm5⟩ := (R.ag FCa).set 0
    obtain ⟨h6, g', F6, e6, m6, q6, N6, R6, Fr6⟩ := (r_takeList R5 hn).1 el
    obtain ⟨h7, e7, R7, Fm7, k7⟩ := r_changeK R6 G
    obtain ⟨h8, e8, R8, Fr8⟩ := R7.nol
    have eg : Eqn (sn s) g' g := RN.same N6 N3 (fun i j hi hj => by rw [q2 i (by omega), q2 j (by omega), ef1 i (by omega), ef1 j (by omega)])
    have k76 : h8.2 76 = some (arr 0 12 F6) := (Fr8.2 76 (by omega)).trans ((k7 76 (by omega)).trans m6)
    obtain ⟨h9, e9, R9, Fr9⟩ := r_become R8 hn (hist12 G) (Or.inl rfl) k76 (fun i hi => (q6 i hi).trans (eg i hi))
    obtain ⟨pa, fp, sm, o8⟩ := R8.obj
    obtain ⟨pa9, fp9, sm9, o9⟩ := R9.obj
    have k769 : h9.2 76 = some (arr 0 12 F6) := (Fr9.2 76 (by omega)).trans k76
    have hr6 : RGS (sn s) F6 := N6.1.congr (fun i hi => (q6 i hi).symm)
    have eh : fX12_heaps 62 76 h9 = some (mx F6 (sn s), h9) := r_heaps R9 hn k769 (by show sn s ≤ 12; omega) (fun i hi => by have := hr6 i hi; have := hr6.lt hi; omega)
    refine ⟨mx g (sn s), hput h3 20 (obj 5 [vi 0, vi k1, vr 21, vr 22]), h9, ?_, ?_, bo (show Good (setf s g) ((s :: hist).take 20) (setL x (0, fun _ => 0)) from ⟨setf_good G.1 N3.1, take20_good G.1 G.2.1, G.2.2.1, G.2.2.2.1, G.2.2.2.2.1, by show 0 ≤ 12; omega, fun i hi => by have : i < 0 := hi; omega⟩) C4 (Fm5.tr ((FM.of Fr6 (fun k hk => by omega)).tr (Fm7.tr ((FM.of Fr8 (fun k hk => by omega)).tr (FM.of Fr9 (fun k hk => by omega)))))) R9⟩
    · rw [gR 5 C.1 rfl, ob, gI 0 Pt0.1 rfl, ob, gR 0 C.1 rfl, ob, gI 0 C.now rfl, ob, if_pos (by omega), co C.1, ob, C.cr1, ob, e1, ob, gR 0 C1.1 rfl, ob, gR 5 C1.now rfl, ob, gR 5 C1.1 rfl, ob, co Pp.1, ob, e2, ob,
        gR 0 ((F2.2 1 (by intro z; rcases z with z | z | z <;> omega)).trans C1.1) rfl, ob, gR 5 ((F2.2 2 (by intro z; rcases z with z | z | z <;> omega)).trans C1.now) rfl, ob, co P2.1, ob, e3, ob, gR 5 C3.1 rfl, ob, pV (fs' := [vi 0, vi k1, vr 21, vr 22]) 0 p0 (by simp) rfl, ob, gR 0 C4.1 rfl, ob, gR 5 C4.now rfl, ob, gI 1 ((hput_ne (by omega)).trans P3.1) rfl, ob]
    · rw [e5, ob, R5.cb, ob, e6, ob, if_neg one0, R6.cb, ob, e7, ob, e8, ob, gR 20 o8 rfl, ob, R8.cb, ob, e9, ob, gR 20 o9 rfl, ob, R9.cb, ob, eh, ob, mx_congr (fun i hi => (q6 i hi).trans (eg i hi))]
  · obtain ⟨h2, h3, e2, R2, e3, B3⟩ := refuse2 G C R 1
    refine ⟨-1, hput h 1 (BO 1), h3, ?_, ?_, B3⟩
    · rw [gR 5 C.1 rfl, ob, gI 0 Pt0.1 rfl, ob, gR 0 C.1 rfl, ob, gI 0 C.now rfl, ob, if_neg (by omega), co C.1, ob, c_refuse C 1, ob]
    · rw [e2, ob, R2.cb, ob, (r_takeList R2 hn).2 el, ob, if_pos rfl, R2.cb, ob, e3, ob]
