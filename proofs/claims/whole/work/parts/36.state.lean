/-! the state of both, in one set of words: the scene, the history, and (sheet, tree, keeps, list) -/
abbrev Aux : Type := (Int × Int × (Nat → Int)) × (Int × (Nat → Int) × (Nat → Int) × (Nat → Int)) × (Nat → Nat × (Nat → Int)) × (Nat × (Nat → Int))
def BO (flt : Int) : AC := obj 10 [vr 2, vr 10, vr 12, vr 14, vr 19, vr 20, vr 23, vr 27, vr 41, vr 44, vr 47, vi flt]
def CShe (h : Hp) (x : Int × Int × (Nat → Int)) : Prop := ∃ n E, isSh h 12 x.1 n E ∧ (x.1 = -1 → n = -1 ∧ Eqn 8 E (fun _ => 0)) ∧ (x.1 ≠ -1 → n = x.2.1 ∧ Eqn 8 E x.2.2)
def CTre (h : Hp) (x : Int × (Nat → Int) × (Nat → Int) × (Nat → Int)) : Prop := ∃ sz hl O T H B, h.2 14 = some (obj 9 [vi x.1, vi sz, vr 15, vr 16, vr 17, vr 18, vi hl]) ∧ h.2 15 = some (arr 0 12 O) ∧ h.2 16 = some (arr 0 12 T) ∧ h.2 17 = some (arr 0 12 H) ∧ h.2 18 = some (arr 0 144 B) ∧ Eqn x.1.toNat O x.2.1 ∧ Eqn x.1.toNat T x.2.2.1 ∧ Eqn x.1.toNat H x.2.2.2
def CKep (h : Hp) (x : Nat → Nat × (Nat → Int)) : Prop := (∃ r, h.2 19 = some (rar 5 4 r) ∧ ∀ j, j < 4 → r j = 50 + 3 * j) ∧ ∀ j, j < 4 → ∃ k f, isPt h (50 + 3 * j) (x j).1 k f ∧ Eqn (x j).1 f (x j).2
def CTol (h : Hp) (x : Nat × (Nat → Int)) : Prop := ∃ k f, isPt h 20 x.1 k f ∧ Eqn x.1 f x.2
/-- what the flat scene keeps to -/
def Flt (W X K : Nat → Int) : Prop := (∀ i, i < 144 → 0 ≤ W i ∧ W i ≤ 10000) ∧ (∀ a, a < 12 → W (12 * a + a) = 0) ∧ ∀ i, i < 144 → X i = 0 ∧ K i = 0
def CScr (h : Hp) : Prop := (∃ c g a b r1 r2 r3, h.2 23 = some (obj 7 [vr 24, vr 25, vr 26, vl c, vi g, vi a, vi b]) ∧ h.2 24 = some (arr 1 512 r1) ∧ h.2 25 = some (arr 0 12 r2) ∧ h.2 26 = some (arr 0 12 r3)) ∧
  (∃ r1 r2 n k f, h.2 27 = some (obj 2 [vr 28, vr 29, vr 30, vr 33]) ∧ h.2 28 = some (arr 0 12 r1) ∧ h.2 29 = some (arr 1 144 r2) ∧ isPt h 30 n k f) ∧ (∃ n m P W X K k f, isSq h 33 n m P W X K k f ∧ Flt W X K) ∧
  (∃ g r1 r2, h.2 41 = some (obj 3 [vr 42, vr 43, vl g]) ∧ h.2 42 = some (arr 0 12 r1) ∧ h.2 43 = some (arr 1 12 r2)) ∧ (∃ r1 r2, h.2 44 = some (obj 1 [vr 45, vr 46]) ∧ h.2 45 = some (arr 0 12 r1) ∧ h.2 46 = some (arr 1 128 r2))
/-- how many ways a name goes on: with so many heaps so far, so many things to come -/
def won : Nat → Nat → Int
  | 0, _ => 1
  | t + 1, k => k * won t k + won t (k + 1)
def CNam (h : Hp) : Prop := (∃ r, h.2 48 = some (arr 1 169 r) ∧ ∀ k t, k + t < 13 → r (13 * k + t) = won t k) ∧ (∃ r, h.2 49 = some (arr 1 13 r)) ∧ h.2 47 = some (obj 4 [vr 48, vr 49])
def CI (h : Hp) (s : Scn) (hist : List Scn) (x : Aux) (flt : Int) : Prop := h.2 1 = some (BO flt) ∧ CSc h 2 s ∧ (∃ A nx, CHist h A nx hist) ∧ CShe h x.1 ∧ CTre h x.2.1 ∧ CKep h x.2.2.1 ∧ CTol h x.2.2.2 ∧ CScr h ∧ CNam h
def RI (h : Hp) (s : Scn) (hist : List Scn) (x : Aux) (flt : Int) : Prop := (∃ (pa fp : Nat) (sm : Int) (Z P W X K N : Nat → Int), h.2 62 = some (MO pa fp x.1.1 sm x.2.1.1 (x.2.2.2.1 : Int) flt) ∧ M6 h Z P W X K N ∧ RSl Z P W X K N 0 s ∧ RHs Z P W X K N pa fp hist ∧ (x.1.1 ≠ -1 → sm = x.1.2.1)) ∧
  (∃ E, h.2 69 = some (arr 1 8 E) ∧ (x.1.1 ≠ -1 → Eqn 8 E x.1.2.2)) ∧ (∃ O T H, h.2 70 = some (arr 0 12 O) ∧ h.2 71 = some (arr 0 12 T) ∧ h.2 72 = some (arr 0 12 H) ∧ Eqn x.2.1.1.toNat O x.2.1.2.1 ∧ Eqn x.2.1.1.toNat T x.2.1.2.2.1 ∧ Eqn x.2.1.1.toNat H x.2.1.2.2.2) ∧
  (∃ r1 r2, h.2 73 = some (arr 0 4 r1) ∧ h.2 74 = some (arr 0 48 r2) ∧ ∀ j, j < 4 → r1 j = ((x.2.2.1 j).1 : Int) ∧ ∀ i, i < (x.2.2.1 j).1 → r2 (12 * j + i) = (x.2.2.1 j).2 i) ∧ (∃ r, h.2 75 = some (arr 0 12 r) ∧ Eqn x.2.2.2.1 r x.2.2.2.2) ∧
  (∃ r1 r2 r3 r4 r5, h.2 76 = some (arr 0 12 r1) ∧ h.2 77 = some (arr 0 12 r2) ∧ h.2 78 = some (arr 0 12 r3) ∧ h.2 79 = some (arr 0 144 r4) ∧ h.2 80 = some (arr 0 12 r5))
/-- what a scene's numbers keep to -/
def GSc (s : Scn) : Prop := 1 ≤ sn s ∧ sn s ≤ 12 ∧ (∀ i, i < 48 → -1000 ≤ sP s i ∧ sP s i ≤ 1000) ∧ (∀ i, i < 144 → 0 ≤ sW s i ∧ sW s i ≤ 10000) ∧ (∀ a b, a < 12 → b < 12 → sW s (12 * a + b) = sW s (12 * b + a)) ∧ (∀ a, a < 12 → sW s (12 * a + a) = 0) ∧
  (∀ i, i < 144 → 0 ≤ sX s i ∧ sX s i ≤ 1000) ∧ (∀ a b, a < 12 → b < 12 → sX s (12 * a + b) = sX s (12 * b + a)) ∧ (∀ a, a < 12 → sX s (12 * a + a) = 0) ∧ like01 s ∧ (∀ a b, a < 12 → b < 12 → sK s (12 * a + b) = sK s (12 * b + a)) ∧ (∀ a, a < 12 → sK s (12 * a + a) = 0) ∧ RGS (sn s) (sf s)
def GAx (n : Nat) (x : Aux) : Prop := (x.1.1 = -1 ∨ (0 ≤ x.1.1 ∧ x.1.1 ≤ 4 ∧ 0 ≤ x.1.2.1 ∧ x.1.2.1 ≤ 8 ∧ (x.1.1 = 4 → x.1.2.1 = 0))) ∧
  (x.2.1.1 = -1 ∨ (x.2.1.1 = (n : Int) - 1 ∧ ∀ i, i < n - 1 → 0 ≤ x.2.1.2.1 i ∧ x.2.1.2.1 i < x.2.1.2.2.1 i ∧ x.2.1.2.2.1 i < n ∧ 0 ≤ x.2.1.2.2.2 i ∧ x.2.1.2.2.2 i ≤ 10000)) ∧ (∀ j, j < 4 → (x.2.2.1 j).1 ≤ 12 ∧ RGS (x.2.2.1 j).1 (x.2.2.1 j).2) ∧ x.2.2.2.1 ≤ 12 ∧ ∀ i, i < x.2.2.2.1 → 0 ≤ x.2.2.2.2 i ∧ x.2.2.2.2 i ≤ 11
def Good (s : Scn) (hist : List Scn) (x : Aux) : Prop := GSc s ∧ (∀ y ∈ hist, GSc y) ∧ GAx (sn s) x
-- agreement on own cells
theorem isPt.ag {h h' : Hp} {q : Nat} {n k : Int} {f : Nat → Int} (p : isPt h q n k f) (hs : ∀ j, q ≤ j → j ≤ q + 2 → h'.2 j = h.2 j) : isPt h' q n k f := by
  obtain ⟨p0, p1, g, p2⟩ := p
  exact ⟨(hs _ (by omega) (by omega)).trans p0, (hs _ (by omega) (by omega)).trans p1, g, (hs _ (by omega) (by omega)).trans p2⟩
theorem CHist.ag {h h' : Hp} {A nx : Nat} {hist : List Scn} (C : CHist h A nx hist) (h1 : h'.1 = h.1) (hs : ∀ k, k = 10 ∨ k = 11 ∨ 81 ≤ k → h'.2 k = h.2 k) : CHist h' A nx hist := by
  obtain ⟨c1, c2, c3, c4, c5, c6, c7, ⟨sc, c8, c9⟩, c10, c11⟩ := C
  refine ⟨h1.trans c1, c2, c3, c4, c5, c6, (hs 10 (by omega)).trans c7, ⟨sc, (hs 11 (by omega)).trans c8, c9⟩, fun j hj => ?_, fun k s hk => (c11 k s hk).ag (fun j hj => hs j (by obtain ⟨z, -⟩ := hj; omega))⟩
  obtain ⟨n, m, P, W, X, K, k, f, z⟩ := c10 j hj
  exact ⟨n, m, P, W, X, K, k, f, z.ag (fun l hl => hs l (by obtain ⟨z, -⟩ := hl; omega))⟩
theorem CShe.ag {h h' : Hp} {x : Int × Int × (Nat → Int)} (C : CShe h x) (hs : ∀ k, k = 12 ∨ k = 13 → h'.2 k = h.2 k) : CShe h' x := by
  obtain ⟨n, E, ⟨a, b⟩, r⟩ := C
  exact ⟨n, E, ⟨(hs _ (by omega)).trans a, (hs _ (by omega)).trans b⟩, r⟩
theorem CTre.ag {h h' : Hp} {x : Int × (Nat → Int) × (Nat → Int) × (Nat → Int)} (C : CTre h x) (hs : ∀ k, 14 ≤ k ∧ k ≤ 18 → h'.2 k = h.2 k) : CTre h' x := by
  obtain ⟨sz, hl, O, T, H, B, a, b, c, d, e, r⟩ := C
  exact ⟨sz, hl, O, T, H, B, (hs _ (by omega)).trans a, (hs _ (by omega)).trans b, (hs _ (by omega)).trans c, (hs _ (by omega)).trans d, (hs _ (by omega)).trans e, r⟩
theorem CKep.ag {h h' : Hp} {x : Nat → Nat × (Nat → Int)} (C : CKep h x) (hs : ∀ k, k = 19 ∨ (50 ≤ k ∧ k ≤ 61) → h'.2 k = h.2 k) : CKep h' x := by
  obtain ⟨⟨r, a, b⟩, c⟩ := C
  refine ⟨⟨r, (hs _ (by omega)).trans a, b⟩, fun j hj => ?_⟩
  obtain ⟨k, f, p, q⟩ := c j hj
  exact ⟨k, f, p.ag (fun l h1 h2 => hs l (by omega)), q⟩
theorem CTol.ag {h h' : Hp} {x : Nat × (Nat → Int)} (C : CTol h x) (hs : ∀ k, 20 ≤ k ∧ k ≤ 22 → h'.2 k = h.2 k) : CTol h' x := by
  obtain ⟨k, f, p, q⟩ := C
  exact ⟨k, f, p.ag (fun l h1 h2 => hs l (by omega)), q⟩
theorem CScr.ag {h h' : Hp} (C : CScr h) (hs : ∀ k, 23 ≤ k ∧ k ≤ 46 → h'.2 k = h.2 k) : CScr h' := by
  obtain ⟨⟨c, g, a, b, r1, r2, r3, z1, z2, z3, z4⟩, ⟨t1, t2, n, k, f, y1, y2, y3, y4⟩, ⟨n', m, P, W, X, K, k', f', w1, w2⟩, ⟨g', u1, u2, v1, v2, v3⟩, ⟨p1, p2, q1, q2, q3⟩⟩ := C
  refine ⟨⟨c, g, a, b, r1, r2, r3, (hs _ (by omega)).trans z1, (hs _ (by omega)).trans z2, (hs _ (by omega)).trans z3, (hs _ (by omega)).trans z4⟩, ⟨t1, t2, n, k, f, (hs _ (by omega)).trans y1, (hs _ (by omega)).trans y2, (hs _ (by omega)).trans y3, y4.ag (fun l h1 h2 => hs l (by omega))⟩, ⟨n', m, P, W, X, K, k', f', w1.ag (fun l hl => hs l (by obtain ⟨e1, e2⟩ := hl; omega)), w2⟩, ⟨g', u1, u2, (hs _ (by omega)).trans v1, (hs _ (by omega)).trans v2, (hs _ (by omega)).trans v3⟩, ⟨p1, p2, (hs _ (by omega)).trans q1, (hs _ (by omega)).trans q2, (hs _ (by omega)).trans q3⟩⟩
theorem CNam.ag {h h' : Hp} (C : CNam h) (hs : ∀ k, 47 ≤ k ∧ k ≤ 49 → h'.2 k = h.2 k) : CNam h' := by
  obtain ⟨⟨r, a, b⟩, ⟨r2, c⟩, d⟩ := C
  exact ⟨⟨r, (hs _ (by omega)).trans a, b⟩, ⟨r2, (hs _ (by omega)).trans c⟩, (hs _ (by omega)).trans d⟩
/-- the reference's work leaves the class as it is -/
theorem CI.ag {h h' : Hp} {s : Scn} {hist : List Scn} {x : Aux} {flt : Int} (C : CI h s hist x flt) (h1 : h'.1 = h.1) (hs : ∀ k, k < 62 ∨ 80 < k → h'.2 k = h.2 k) : CI h' s hist x flt := by
  obtain ⟨c1, c2, ⟨A, nx, c3⟩, c4, c5, c6, c7, c8, c9⟩ := C
  exact ⟨(hs _ (by omega)).trans c1, c2.ag (fun j hj => hs j (by obtain ⟨z1, z2⟩ := hj; omega)), ⟨A, nx, c3.ag h1 (fun k hk => hs k (by omega))⟩, c4.ag (fun k hk => hs k (by omega)), c5.ag (fun k hk => hs k (by omega)), c6.ag (fun k hk => hs k (by omega)), c7.ag (fun k hk => hs k (by omega)), c8.ag (fun k hk => hs k (by omega)), c9.ag (fun k hk => hs k (by omega))⟩
/-- and the class's work the reference -/
theorem RI.ag {h h' : Hp} {s : Scn} {hist : List Scn} {x : Aux} {flt : Int} (C : RI h s hist x flt) (hs : ∀ k, 62 ≤ k → k ≤ 80 → h'.2 k = h.2 k) : RI h' s hist x flt := by
  obtain ⟨⟨pa, fp, sm, Z, P, W, X, K, N, a1, ⟨m0, m1, m2, m3, m4, m5⟩, a3⟩, ⟨E, b1, b2⟩, ⟨O, T, H, d1, d2, d3, d4⟩, ⟨r1, r2, e1, e2, e3⟩, ⟨r, f1, f2⟩, ⟨q1, q2, q3, q4, q5, g1, g2, g3, g4, g5⟩⟩ := C
  exact ⟨⟨pa, fp, sm, Z, P, W, X, K, N, (hs _ (by omega) (by omega)).trans a1, ⟨(hs _ (by omega) (by omega)).trans m0, (hs _ (by omega) (by omega)).trans m1, (hs _ (by omega) (by omega)).trans m2, (hs _ (by omega) (by omega)).trans m3, (hs _ (by omega) (by omega)).trans m4, (hs _ (by omega) (by omega)).trans m5⟩, a3⟩, ⟨E, (hs _ (by omega) (by omega)).trans b1, b2⟩, ⟨O, T, H, (hs _ (by omega) (by omega)).trans d1, (hs _ (by omega) (by omega)).trans d2, (hs _ (by omega) (by omega)).trans d3, d4⟩, ⟨r1, r2, (hs _ (by omega) (by omega)).trans e1, (hs _ (by omega) (by omega)).trans e2, e3⟩, ⟨r, (hs _ (by omega) (by omega)).trans f1, f2⟩, ⟨q1, q2, q3, q4, q5, (hs _ (by omega) (by omega)).trans g1, (hs _ (by omega) (by omega)).trans g2, (hs _ (by omega) (by omega)).trans g3, (hs _ (by omega) (by omega)).trans g4, (hs _ (by omega) (by omega)).trans g5⟩⟩
