/-- the class's call leaves the reference's cells -/
def FC (h h' : Hp) : Prop := ∀ k, 62 ≤ k → k ≤ 80 → h'.2 k = h.2 k
/-- the reference's call leaves the class's cells -/
def FM (h h' : Hp) : Prop := h'.1 = h.1 ∧ ∀ k, k < 62 ∨ 80 < k → h'.2 k = h.2 k
theorem FC.rf {h : Hp} : FC h h := fun _ _ _ => rfl
theorem FC.tr {h h' h'' : Hp} (a : FC h h') (b : FC h' h'') : FC h h'' := fun k h1 h2 => (b k h1 h2).trans (a k h1 h2)
theorem FM.rf {h : Hp} : FM h h := ⟨rfl, fun _ _ => rfl⟩
theorem FM.tr {h h' h'' : Hp} (a : FM h h') (b : FM h' h'') : FM h h'' := ⟨b.1.trans a.1, fun k hk => (b.2 k hk).trans (a.2 k hk)⟩
theorem FC.put {h : Hp} {q : Nat} {c : AC} (hq : q < 62 ∨ 80 < q) : FC h (hput h q c) := fun k h1 h2 => hput_ne (by omega)
theorem FM.put {h : Hp} {q : Nat} {c : AC} (hq : 62 ≤ q ∧ q ≤ 80) : FM h (hput h q c) := ⟨rfl, fun k hk => hput_ne (by omega)⟩
theorem one0 {α : Type} {b : α} : ¬ ((1 : Int), b).1 = 0 := by show ¬ (1 : Int) = 0; decide
section
variable {h : Hp} {s : Scn} {hist : List Scn} {x : Aux} {flt : Int}
theorem CI.set (C : CI h s hist x flt) (z : Int) : CI (hput h 1 (BO z)) s hist x z := by
  obtain ⟨c1, c2, ⟨A, nx, c3⟩, c4, c5, c6, c7, c8, c9⟩ := C
  have e : ∀ k, k ≠ 1 → (hput h 1 (BO z)).2 k = h.2 k := fun k hk => hput_ne hk
  exact ⟨hput_eq, c2.ag (fun j hj => e j (by obtain ⟨z1, z2⟩ := hj; omega)), ⟨A, nx, c3.ag rfl (fun k hk => e k (by omega))⟩, c4.ag (fun k hk => e k (by omega)), c5.ag (fun k hk => e k (by omega)), c6.ag (fun k hk => e k (by omega)), c7.ag (fun k hk => e k (by omega)), c8.ag (fun k hk => e k (by omega)), c9.ag (fun k hk => e k (by omega))⟩
theorem CI.put1 (C : CI h s hist x flt) (z : Int) : putV h 10 1 11 (vi z) = some (hput h 1 (BO z)) := pV 11 C.1 (by simp) rfl
theorem c_refuse (C : CI h s hist x flt) (z : Int) : fX11_refuse 1 z h = some (-1, hput h 1 (BO z)) := by
  unfold fX11_refuse; rw [C.put1 z, ob]
theorem c_deny (C : CI h s hist x flt) (z : Int) : fX11_deny 1 z h = some (0, hput h 1 (BO z)) := by
  unfold fX11_deny; rw [C.put1 z, ob]
theorem CI.now (C : CI h s hist x flt) : h.2 2 = some (scO 2 (sn s)) := by
  obtain ⟨P, W, X, K, f, z, -⟩ := C.2.1
  exact z.1
theorem c_isThing (C : CI h s hist x flt) (a : Int) : fX11_isThing 1 a h = some (if 0 ≤ a ∧ a < sn s then 1 else 0, h) := by
  unfold fX11_isThing
  simp only [fX11_isThing_19, fX11_isThing_20]
  by_cases e : a < 0
  · rw [if_pos e, if_neg (by omega)]; rfl
  · rw [if_neg e, gR 0 C.1 rfl, ob, gI 0 C.now rfl, ob]
    by_cases e2 : (sn s : Int) ≤ a
    · rw [if_pos e2, if_neg (by omega)]; rfl
    · rw [if_neg e2, if_pos (by omega)]; rfl
theorem c_isCouple (C : CI h s hist x flt) (a b : Int) : fX11_isCouple 1 a b h = some (if (0 ≤ a ∧ a < sn s) ∧ (0 ≤ b ∧ b < sn s) ∧ a ≠ b then 1 else 0, h) := by
  unfold fX11_isCouple
  simp only [fX11_isCouple_25, fX11_isCouple_26]
  rw [co C.1, ob, c_isThing C a, ob]
  by_cases e : 0 ≤ a ∧ a < sn s
  · rw [if_pos e, if_neg one0, co C.1, ob, c_isThing C b, ob]
    by_cases e2 : 0 ≤ b ∧ b < sn s
    · rw [if_pos e2, if_neg one0]
      by_cases e3 : a = b
      · rw [if_pos e3, if_neg (by omega)]; rfl
      · rw [if_neg e3, if_pos ⟨e, e2, e3⟩]; rfl
    · rw [if_neg e2, if_pos rfl, if_neg (fun z => e2 z.2.1)]; rfl
  · rw [if_neg e, if_pos rfl, if_neg (fun z => e z.1)]; rfl
theorem c_change (C : CI h s hist x flt) (hs : sn s ≤ 12) : ∃ h', fX11_change 1 h = some h' ∧ CI h' s ((s :: hist).take 20) x 0 ∧ FC h h' := by
  have C1 := C.set 0
  obtain ⟨c1, c2, ⟨A, nx, c3⟩, c4, c5, c6, c7, c8, c9⟩ := C1
  obtain ⟨h', A', nx', e, d1, d2⟩ := remember_ok hs c3 c2
  unfold fX11_change
  rw [C.put1 0, ob, gR 1 c1 rfl, ob, gR 0 c1 rfl, ob, co c3.2.2.2.2.2.2.1, ob, cr (by have := c3.1; omega), ob, e, ob]
  refine ⟨h', rfl, ⟨(d2 1 (by omega) (by omega) (by omega)).trans c1, c2.ag (fun j hj => d2 j (by obtain ⟨z1, z2⟩ := hj; omega) (by obtain ⟨z1, z2⟩ := hj; omega) (by obtain ⟨z1, z2⟩ := hj; omega)), ⟨A', nx', d1⟩, c4.ag (fun k hk => d2 k (by omega) (by omega) (by omega)), c5.ag (fun k hk => d2 k (by omega) (by omega) (by omega)), c6.ag (fun k hk => d2 k (by omega) (by omega) (by omega)), c7.ag (fun k hk => d2 k (by omega) (by omega) (by omega)), c8.ag (fun k hk => d2 k (by omega) (by omega) (by omega)), c9.ag (fun k hk => d2 k (by omega) (by omega) (by omega))⟩, fun k h1 h2 => (d2 k (by omega) (by omega) (by omega)).trans (hput_ne (by omega))⟩
-- the reference's
theorem RI.obj (R : RI h s hist x flt) : ∃ (pa fp : Nat) (sm : Int), h.2 62 = some (MO pa fp x.1.1 sm x.2.1.1 (x.2.2.2.1 : Int) flt) := by
  obtain ⟨⟨pa, fp, sm, Z, P, W, X, K, N, a1, -⟩, -⟩ := R
  exact ⟨pa, fp, sm, a1⟩
theorem RI.set (R : RI h s hist x flt) (z : Int) : ∃ h', putV h 11 62 19 (vi z) = some h' ∧ RI h' s hist x z ∧ FM h h' := by
  obtain ⟨⟨pa, fp, sm, Z, P, W, X, K, N, a1, ⟨m0, m1, m2, m3, m4, m5⟩, a3⟩, ⟨E, b1, b2⟩, ⟨O, T, H, d1, d2, d3, d4⟩, ⟨r1, r2, e1, e2, e3⟩, ⟨r, f1, f2⟩, ⟨q1, q2, q3, q4, q5, g1, g2, g3, g4, g5⟩⟩ := R
  refine ⟨hput h 62 (MO pa fp x.1.1 sm x.2.1.1 (x.2.2.2.1 : Int) z), pV 19 a1 (by simp) rfl, ⟨⟨pa, fp, sm, Z, P, W, X, K, N, hput_eq, ⟨(hput_ne (by omega)).trans m0, (hput_ne (by omega)).trans m1, (hput_ne (by omega)).trans m2, (hput_ne (by omega)).trans m3, (hput_ne (by omega)).trans m4, (hput_ne (by omega)).trans m5⟩, a3⟩, ⟨E, (hput_ne (by omega)).trans b1, b2⟩, ⟨O, T, H, (hput_ne (by omega)).trans d1, (hput_ne (by omega)).trans d2, (hput_ne (by omega)).trans d3, d4⟩, ⟨r1, r2, (hput_ne (by omega)).trans e1, (hput_ne (by omega)).trans e2, e3⟩, ⟨r, (hput_ne (by omega)).trans f1, f2⟩, ⟨q1, q2, q3, q4, q5, (hput_ne (by omega)).trans g1, (hput_ne (by omega)).trans g2, (hput_ne (by omega)).trans g3, (hput_ne (by omega)).trans g4, (hput_ne (by omega)).trans g5⟩⟩, FM.put ⟨by omega, by omega⟩⟩
theorem r_no (R : RI h s hist x flt) (z : Int) : ∃ h', fX12_no 62 z h = some (-1, h') ∧ RI h' s hist x z ∧ FM h h' := by
  obtain ⟨h', e, r⟩ := R.set z
  exact ⟨h', by unfold fX12_no; rw [e, ob], r⟩
theorem r_n (R : RI h s hist x flt) : fX12_n 62 h = some ((sn s : Int), h) := by
  obtain ⟨⟨pa, fp, sm, Z, P, W, X, K, N, a1, ⟨m0, -⟩, ⟨z0, -⟩, -⟩, -⟩ := R
  unfold fX12_n
  rw [gR 0 a1 rfl, ob, ald_of (i := 0) 0 m0 rfl (by omega), ob, z0]
theorem RI.cb (R : RI h s hist x flt) : cob h 11 62 = some () := by
  obtain ⟨pa, fp, sm, a1⟩ := R.obj
  exact co a1
theorem r_isThing (R : RI h s hist x flt) (a : Int) : fX12_isThing 62 a h = some (if 0 ≤ a ∧ a < sn s then 1 else 0, h) := by
  unfold fX12_isThing
  simp only [fX12_isThing_16, fX12_isThing_17]
  by_cases e : a < 0
  · rw [if_pos e, if_neg (by omega)]; rfl
  · rw [if_neg e, R.cb, ob, r_n R, ob]
    by_cases e2 : (sn s : Int) ≤ a
    · rw [if_pos e2, if_neg (by omega)]; rfl
    · rw [if_neg e2, if_pos (by omega)]; rfl
theorem r_arePair (R : RI h s hist x flt) (a b : Int) : fX12_arePair 62 a b h = some (if (0 ≤ a ∧ a < sn s) ∧ (0 ≤ b ∧ b < sn s) ∧ a ≠ b then 1 else 0, h) := by
  unfold fX12_arePair
  simp only [fX12_arePair_25, fX12_arePair_26]
  rw [R.cb, ob, r_isThing R a, ob]
  by_cases e : 0 ≤ a ∧ a < sn s
  · rw [if_pos e, if_neg one0, R.cb, ob, r_isThing R b, ob]
    by_cases e2 : 0 ≤ b ∧ b < sn s
    · rw [if_pos e2, if_neg one0]
      by_cases e3 : a = b
      · rw [if_pos e3, if_neg (by omega)]; rfl
      · rw [if_neg e3, if_pos ⟨e, e2, e3⟩]; rfl
    · rw [if_neg e2, if_pos rfl, if_neg (fun z => e2 z.2.1)]; rfl
  · rw [if_neg e, if_pos rfl, if_neg (fun z => e z.1)]; rfl
theorem r_change (R : RI h s hist x flt) (G : Good s hist x) : ∃ h', fX12_change 62 h = some h' ∧ RI h' s ((s :: hist).take 20) x flt ∧ FM h h' := by
  obtain ⟨⟨pa, fp, sm, Z, P, W, X, K, N, a1, a2, a3, a4, a5⟩, ⟨E, b1, b2⟩, ⟨O, T, H, d1, d2, d3, d4⟩, ⟨r1, r2, e1, e2, e3⟩, ⟨r, f1, f2⟩, ⟨q1, q2, q3, q4, q5, g1, g2, g3, g4, g5⟩⟩ := R
  obtain ⟨h', pa', fp', Z', P', W', X', K', N', e, u1, u2, u3, u4, F⟩ := change_ok G.1.2.1 G.1.2.2.2.2.2.2.2.2.2.1 (fun y hy => (G.2.1 y hy).2.1) a1 a2 a3 a4
  have k : ∀ j, 69 ≤ j → h'.2 j = h.2 j := fun j hj => F.2 j (by omega)
  exact ⟨h', e, ⟨⟨pa', fp', sm, Z', P', W', X', K', N', u1, u2, u3, u4, a5⟩, ⟨E, (k _ (by omega)).trans b1, b2⟩, ⟨O, T, H, (k _ (by omega)).trans d1, (k _ (by omega)).trans d2, (k _ (by omega)).trans d3, d4⟩, ⟨r1, r2, (k _ (by omega)).trans e1, (k _ (by omega)).trans e2, e3⟩, ⟨r, (k _ (by omega)).trans f1, f2⟩, ⟨q1, q2, q3, q4, q5, (k _ (by omega)).trans g1, (k _ (by omega)).trans g2, (k _ (by omega)).trans g3, (k _ (by omega)).trans g4, (k _ (by omega)).trans g5⟩⟩, ⟨F.1, fun j hj => F.2 j (by omega)⟩⟩
end
