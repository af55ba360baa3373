theorem r_undo {h : Hp} {s : Scn} {hist : List Scn} {x : Aux} {flt : Int} (R : RI h s hist x flt) (G : Good s hist x) :
    (hist = [] → ∃ h', fX12_undo 62 h = some (-1, h') ∧ RI h' s hist x 2 ∧ FM h h') ∧
    ∀ y ys, hist = y :: ys → ∃ h', fX12_undo 62 h = some ((ys.length : Int), h') ∧ RI h' y ys (noT x) 0 ∧ FM h h' := by
  obtain ⟨h0, e0, R0, F0⟩ := R.set 0
  obtain ⟨⟨pa, fp, sm, Z, P, W, X, K, N, a1, a2, a3, ⟨a4, a5, a6, a7⟩, a8⟩, ⟨E, b1, b2⟩, ⟨O, T, H, d1, d2, d3, d4⟩, ⟨r1, r2, e1, e2, e3⟩, ⟨r, f1, f2⟩, ⟨q1, q2, q3, q4, q5, g1, g2, g3, g4, g5⟩⟩ := id R0
  constructor
  · intro hh
    obtain ⟨h', e, R1, F1⟩ := r_no R0 2
    subst hh
    have hp : pa = 0 := a4
    subst hp
    unfold fX12_undo
    rw [e0, ob, gI 6 a1 rfl, ob, if_pos (by omega), R0.cb, ob, e, ob]
    exact ⟨h', rfl, R1, F0.tr F1⟩
  · intro y ys hh
    subst hh
    have hp : pa = ys.length + 1 := a4
    subst hp
    have e20 : (fp : Int) + (ys.length : Int) = ((fp + ys.length : Nat) : Int) := by omega
    have er : 1 + bRem ((fp : Int) + (ys.length : Int)) 20 = ((1 + (fp + ys.length) % 20 : Nat) : Int) := by
      rw [e20, show (20 : Int) = ((20 : Nat) : Int) from rfl, bRem_n (by omega) (by omega) (by omega)]; omega
    have hy := a7 0 y rfl
    have es : 1 + (fp + 19 + (ys.length + 1) - 0) % 20 = 1 + (fp + ys.length) % 20 := by omega
    rw [es] at hy
    have Gy := G.2.1 y List.mem_cons_self
    have o1 : (hput h0 62 (MO ((ys.length : Nat) : Int) fp x.1.1 sm x.2.1.1 (x.2.2.2.1 : Int) 0)).2 62 = some (MO ((ys.length : Nat) : Int) fp x.1.1 sm x.2.1.1 (x.2.2.2.1 : Int) 0) := hput_eq
    obtain ⟨m0, m1, m2, m3, m4, m5⟩ := a2
    have M1 : M6 (hput h0 62 (MO ((ys.length : Nat) : Int) fp x.1.1 sm x.2.1.1 (x.2.2.2.1 : Int) 0)) Z P W X K N := ⟨(hput_ne (by omega)).trans m0, (hput_ne (by omega)).trans m1, (hput_ne (by omega)).trans m2, (hput_ne (by omega)).trans m3, (hput_ne (by omega)).trans m4, (hput_ne (by omega)).trans m5⟩
    obtain ⟨h1, P', W', X', K', N', ec, Mc, c1, c2, c3, c4, c5, F1⟩ := copy_ok o1 M1 (a := 1 + (fp + ys.length) % 20) (b := 0) (by omega) (by omega) (by omega) (fun i hi => by rw [hy.2.2.2.2.1 i hi]; exact Gy.2.2.2.2.2.2.2.2.2.1 i hi)
    have o2 : h1.2 62 = some (MO ((ys.length : Nat) : Int) fp x.1.1 sm x.2.1.1 (x.2.2.2.1 : Int) 0) := (F1.2 62 (by omega)).trans o1
    have e5 : ((ys.length + 1 : Nat) : Int) - 1 = (ys.length : Int) := by omega
    unfold fX12_undo
    rw [e0, ob, gI 6 a1 rfl, ob, if_neg (by omega), ob, c32_n (by omega) (by omega), ob, e5, pV (fs' := [vr 63, vr 64, vr 65, vr 66, vr 67, vr 68, vi (ys.length : Int), vi fp, vi x.1.1, vi sm, vr 69, vi x.2.1.1, vr 70, vr 71, vr 72, vr 73, vr 74, vr 75, vi (x.2.2.2.1 : Int), vi 0, vr 76, vr 77, vr 78, vr 79, vr 80]) 6 a1 (by simp) rfl, ob, gI 7 o1 rfl, ob, gI 6 o1 rfl, ob, er, c32_n (by omega) (by omega), ob, co o1, ob]
    have ec' : fX12_copy 62 ((1 + (fp + ys.length) % 20 : Nat) : Int) 0 (hput h0 62 (MO ((ys.length : Nat) : Int) fp x.1.1 sm x.2.1.1 (x.2.2.2.1 : Int) 0)) = some h1 := ec
    rw [ec', ob, pV (fs' := [vr 63, vr 64, vr 65, vr 66, vr 67, vr 68, vi (ys.length : Int), vi fp, vi x.1.1, vi sm, vr 69, vi (-1), vr 70, vr 71, vr 72, vr 73, vr 74, vr 75, vi (x.2.2.2.1 : Int), vi 0, vr 76, vr 77, vr 78, vr 79, vr 80]) 11 o2 (by simp) rfl, ob, gI 6 hput_eq rfl, ob]
    obtain ⟨n0, n1, n2, n3, n4, n5⟩ := Mc
    have kk : ∀ j, 69 ≤ j → (hput h1 62 (MO ((ys.length : Nat) : Int) fp x.1.1 sm (-1) (x.2.2.2.1 : Int) 0)).2 j = h0.2 j := fun j hj => (hput_ne (by omega)).trans ((F1.2 j (by omega)).trans (hput_ne (by omega)))
    refine ⟨hput h1 62 (MO ((ys.length : Nat) : Int) fp x.1.1 sm (-1) (x.2.2.2.1 : Int) 0), rfl, ⟨⟨ys.length, fp, sm, _, P', W', X', K', N', hput_eq, ⟨(hput_ne (by omega)).trans n0, (hput_ne (by omega)).trans n1, (hput_ne (by omega)).trans n2, (hput_ne (by omega)).trans n3, (hput_ne (by omega)).trans n4, (hput_ne (by omega)).trans n5⟩, hy.cp Gy.2.1 c1 c2 c3 c4 c5, ⟨rfl, by omega, a6, fun k z hk => ?_⟩, a8⟩, ⟨E, (kk _ (by omega)).trans b1, b2⟩, ⟨O, T, H, (kk _ (by omega)).trans d1, (kk _ (by omega)).trans d2, (kk _ (by omega)).trans d3, fun i hi => by simp [noT] at hi, fun i hi => by simp [noT] at hi, fun i hi => by simp [noT] at hi⟩, ⟨r1, r2, (kk _ (by omega)).trans e1, (kk _ (by omega)).trans e2, e3⟩, ⟨r, (kk _ (by omega)).trans f1, f2⟩, ⟨q1, q2, q3, q4, q5, (kk _ (by omega)).trans g1, (kk _ (by omega)).trans g2, (kk _ (by omega)).trans g3, (kk _ (by omega)).trans g4, (kk _ (by omega)).trans g5⟩⟩, F0.tr ⟨F1.1, fun k hk => (hput_ne (by omega)).trans ((F1.2 k (by omega)).trans (hput_ne (by omega)))⟩⟩
    have hk2 := a7 (k + 1) z (by simpa using hk)
    have hkl : k < ys.length := (List.getElem?_eq_some_iff.mp hk).1
    have e6 : (fp + 19 + ys.length - k) % 20 = (fp + 19 + (ys.length + 1) - (k + 1)) % 20 := by omega
    rw [e6]
    exact hk2.ot (G.2.1 z (List.mem_cons_of_mem _ (List.mem_of_getElem? hk))).2.1 (by omega) c1 c2 c3 c4 c5
theorem both_undo {h : Hp} (B : Both h) : ∃ r h1 h2, fX11_undo 1 h = some (r, h1) ∧ fX12_undo 62 h1 = some (r, h2) ∧ Both h2 := by
  obtain ⟨s, hist, x, flt, G, C, R⟩ := B
  match hist, G, C, R with
  | [], G, C, R =>
    obtain ⟨h1, e1, C1, F1⟩ := (c_undo C G).1 rfl
    obtain ⟨h2, e2, R2, F2⟩ := (r_undo (R.ag F1) G).1 rfl
    exact ⟨_, h1, h2, e1, e2, both_of (s := s) (hist := []) (x := x) (flt := flt) (h := h) G C1 F2 R2⟩
  | y :: ys, G, C, R =>
    obtain ⟨h1, e1, C1, F1⟩ := (c_undo C G).2 y ys rfl
    obtain ⟨h2, e2, R2, F2⟩ := (r_undo (R.ag F1) G).2 y ys rfl
    exact ⟨_, h1, h2, e1, e2, both_of (s := s) (hist := []) (x := x) (flt := flt) (h := h) ⟨G.2.1 y List.mem_cons_self, fun z hz => G.2.1 z (List.mem_cons_of_mem _ hz), noT_good G.2.2⟩ C1 F2 R2⟩
