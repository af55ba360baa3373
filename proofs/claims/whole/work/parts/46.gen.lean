/-! loops that add up or take the greatest; what the reference's cells hold, by name -/
theorem sumN_bd {n : Nat} {F : Nat → Int} {B : Int} (h : ∀ i, i < n → -B ≤ F i ∧ F i ≤ B) : -(n * B) ≤ sumN n F ∧ sumN n F ≤ n * B := by
  induction n with
  | zero => simp [sumN]
  | succ n ih =>
    have h1 := ih (fun i hi => h i (by omega)); have h2 := h n (by omega)
    simp only [sumN]; rw [Int.natCast_add, Int.add_mul]; omega
theorem lpsum {β : Type} (F : Nat → Nat → Int → Option β) (G : Nat → Int) (m i0 : Nat) (c0 B : Int) (r : Option β) (hm : m ≤ 1000000) (hi0 : i0 ≤ m) (hz : ∀ i, i < i0 → G i = 0) (hG : ∀ i, i < m → -B ≤ G i ∧ G i ≤ B)
    (step : ∀ N i c, i0 ≤ i → i < m → c0 - i * B ≤ c → c ≤ c0 + i * B → F (N + 1) i c = F N (i + 1) (c + G i)) (fin : ∀ N, F (N + 1) m (c0 + sumN m G) = r) : F FU i0 c0 = r := by
  refine lp F (fun i c => i0 ≤ i ∧ c = c0 + sumN i G) m (fun o => o = r) ?_ ?_ FU i0 c0 hi0 (FU_lt (by omega)) ⟨Nat.le_refl _, by rw [sumN_zero hz]; omega⟩
  · intro N i c hi ⟨h1, h2⟩
    have hb := sumN_bd (n := i) (F := G) (B := B) (fun j hj => hG j (by omega))
    exact ⟨c + G i, ⟨by omega, by simp only [sumN]; omega⟩, step N i c h1 hi (by omega) (by omega)⟩
  · intro N c ⟨_, h2⟩
    rw [h2]; exact fin N
theorem lpmax {β : Type} (F : Nat → Nat → Int → Option β) (G : Nat → Int) (m i0 : Nat) (B : Int) (r : Option β) (hm : m ≤ 1000000) (hi0 : i0 ≤ m) (hB : 0 ≤ B) (hz : ∀ i, i < i0 → G i ≤ 0) (hG : ∀ i, i < m → G i ≤ B)
    (step : ∀ N i c, i0 ≤ i → i < m → 0 ≤ c → c ≤ B → F (N + 1) i c = F N (i + 1) (max c (G i))) (fin : ∀ N, F (N + 1) m (maxN m G) = r) : F FU i0 0 = r := by
  refine lp F (fun i c => i0 ≤ i ∧ c = maxN i G) m (fun o => o = r) ?_ ?_ FU i0 0 hi0 (FU_lt (by omega)) ⟨Nat.le_refl _, ?_⟩
  · intro N i c hi ⟨h1, h2⟩
    have hb := maxN_le (n := i) (F := G) hB (fun j hj => hG j (by omega))
    have hb2 := maxN_nonneg i G
    exact ⟨max c (G i), ⟨by omega, by simp only [maxN]; rw [h2]⟩, step N i c h1 hi (by omega) (by omega)⟩
  · intro N c ⟨_, h2⟩
    rw [h2]; exact fin N
  · have h1 := maxN_le (n := i0) (F := G) (c := 0) (by omega) hz
    have h2 := maxN_nonneg i0 G
    omega
theorem max_0 {c : Int} (h : 0 ≤ c) : max c 0 = c := by omega
/-- the scene with another parting -/
def setf (s : Scn) (g : Nat → Int) : Scn := (sn s, sP s, sW s, sX s, sK s, g)
theorem setf_good {s : Scn} (G : GSc s) {g : Nat → Int} (hg : RGS (sn s) g) : GSc (setf s g) := by
  obtain ⟨g1, g2, g3, g4, g5, g6, g7, g8, g9, g10, g11, g12, g13⟩ := G
  exact ⟨g1, g2, g3, g4, g5, g6, g7, g8, g9, g10, g11, g12, hg⟩
section
variable {h : Hp} {s : Scn} {hist : List Scn} {x : Aux} {flt : Int}
theorem RI.nb {β : Type} (R : RI h s hist x flt) (k : Int × Hp → Option β) : ((cob h 11 62).bind fun _ => (fX12_n 62 h).bind k) = k ((sn s : Int), h) := by rw [R.cb, ob, r_n R, ob]
theorem RI.way (R : RI h s hist x flt) : ∃ W, h.2 65 = some (arr 0 3024 W) ∧ Eqn 144 W (sW s) := by
  obtain ⟨⟨pa, fp, sm, Z, P, W, X, K, N, a1, ⟨m0, m1, m2, m3, m4, m5⟩, ⟨t0, t1, t2, t3, t4, t5⟩, -⟩, -⟩ := R
  exact ⟨W, m2, fun i hi => by have := t2 i hi; simpa using this⟩
theorem RI.wgt (R : RI h s hist x flt) : ∃ X, h.2 66 = some (arr 0 3024 X) ∧ Eqn 144 X (sX s) := by
  obtain ⟨⟨pa, fp, sm, Z, P, W, X, K, N, a1, ⟨m0, m1, m2, m3, m4, m5⟩, ⟨t0, t1, t2, t3, t4, t5⟩, -⟩, -⟩ := R
  exact ⟨X, m3, fun i hi => by have := t3 i hi; simpa using this⟩
theorem RI.lik (R : RI h s hist x flt) : ∃ K, h.2 67 = some (arr 2 3024 K) ∧ Eqn 144 K (sK s) := by
  obtain ⟨⟨pa, fp, sm, Z, P, W, X, K, N, a1, ⟨m0, m1, m2, m3, m4, m5⟩, ⟨t0, t1, t2, t3, t4, t5⟩, -⟩, -⟩ := R
  exact ⟨K, m4, fun i hi => by have := t4 i hi; simpa using this⟩
theorem RI.plc (R : RI h s hist x flt) : ∃ P, h.2 64 = some (arr 0 1008 P) ∧ Eqn 48 P (sP s) := by
  obtain ⟨⟨pa, fp, sm, Z, P, W, X, K, N, a1, ⟨m0, m1, m2, m3, m4, m5⟩, ⟨t0, t1, t2, t3, t4, t5⟩, -⟩, -⟩ := R
  exact ⟨P, m1, fun i hi => by have := t1 i hi; simpa using this⟩
theorem RI.scr (R : RI h s hist x flt) : ∃ r1 r2 r3 r4 r5, h.2 76 = some (arr 0 12 r1) ∧ h.2 77 = some (arr 0 12 r2) ∧ h.2 78 = some (arr 0 12 r3) ∧ h.2 79 = some (arr 0 144 r4) ∧ h.2 80 = some (arr 0 12 r5) := R.2.2.2.2.2
/-- scratch rows of the reference may hold anything -/
theorem RI.sc {h' : Hp} (R : RI h s hist x flt) (F : Fr (fun k => 76 ≤ k ∧ k ≤ 80) h h') (S : ∃ r1 r2 r3 r4 r5, h'.2 76 = some (arr 0 12 r1) ∧ h'.2 77 = some (arr 0 12 r2) ∧ h'.2 78 = some (arr 0 12 r3) ∧ h'.2 79 = some (arr 0 144 r4) ∧ h'.2 80 = some (arr 0 12 r5)) : RI h' s hist x flt := by
  obtain ⟨⟨pa, fp, sm, Z, P, W, X, K, N, a1, ⟨m0, m1, m2, m3, m4, m5⟩, a3⟩, ⟨E, b1, b2⟩, ⟨O, T, H, d1, d2, d3, d4⟩, ⟨r1, r2, e1, e2, e3⟩, ⟨r, f1, f2⟩, -⟩ := R
  have k : ∀ j, j < 76 → h'.2 j = h.2 j := fun j hj => F.2 j (by omega)
  exact ⟨⟨pa, fp, sm, Z, P, W, X, K, N, (k _ (by omega)).trans a1, ⟨(k _ (by omega)).trans m0, (k _ (by omega)).trans m1, (k _ (by omega)).trans m2, (k _ (by omega)).trans m3, (k _ (by omega)).trans m4, (k _ (by omega)).trans m5⟩, a3⟩, ⟨E, (k _ (by omega)).trans b1, b2⟩, ⟨O, T, H, (k _ (by omega)).trans d1, (k _ (by omega)).trans d2, (k _ (by omega)).trans d3, d4⟩, ⟨r1, r2, (k _ (by omega)).trans e1, (k _ (by omega)).trans e2, e3⟩, ⟨r, (k _ (by omega)).trans f1, f2⟩, S⟩
theorem RI.pu (R : RI h s hist x flt) {q : Nat} (hq : q = 76 ∨ q = 77 ∨ q = 78 ∨ q = 80) (F : Nat → Int) : RI (hput h q (arr 0 12 F)) s hist x flt := by
  obtain ⟨r1, r2, r3, r4, r5, e1, e2, e3, e4, e5⟩ := R.scr
  refine R.sc (Fr.rf.put (by omega)) ?_
  rcases hq with rfl | rfl | rfl | rfl
  · exact ⟨F, r2, r3, r4, r5, hput_eq, (hput_ne (by omega)).trans e2, (hput_ne (by omega)).trans e3, (hput_ne (by omega)).trans e4, (hput_ne (by omega)).trans e5⟩
  · exact ⟨r1, F, r3, r4, r5, (hput_ne (by omega)).trans e1, hput_eq, (hput_ne (by omega)).trans e3, (hput_ne (by omega)).trans e4, (hput_ne (by omega)).trans e5⟩
  · exact ⟨r1, r2, F, r4, r5, (hput_ne (by omega)).trans e1, (hput_ne (by omega)).trans e2, hput_eq, (hput_ne (by omega)).trans e4, (hput_ne (by omega)).trans e5⟩
  · exact ⟨r1, r2, r3, r4, F, (hput_ne (by omega)).trans e1, (hput_ne (by omega)).trans e2, (hput_ne (by omega)).trans e3, (hput_ne (by omega)).trans e4, hput_eq⟩
theorem RI.pu9 (R : RI h s hist x flt) (F : Nat → Int) : RI (hput h 79 (arr 0 144 F)) s hist x flt := by
  obtain ⟨r1, r2, r3, r4, r5, e1, e2, e3, e4, e5⟩ := R.scr
  refine R.sc (Fr.rf.put (by omega)) ⟨r1, r2, r3, F, r5, (hput_ne (by omega)).trans e1, (hput_ne (by omega)).trans e2, (hput_ne (by omega)).trans e3, hput_eq, (hput_ne (by omega)).trans e5⟩
/-- the first row of names holds another parting -/
theorem RI.nm {N' : Nat → Int} {N : Nat → Int} {g : Nat → Int} (R : RI h s hist x flt) (e : h.2 68 = some (arr 0 252 N)) (h1 : ∀ j, 12 ≤ j → N' j = N j) (h2 : Eqn (sn s) N' g) (hh : ∀ y ∈ hist, sn y ≤ 12) : RI (hput h 68 (arr 0 252 N')) (setf s g) hist x flt := by
  obtain ⟨⟨pa, fp, sm, Z, P, W, X, K, N0, a1, ⟨m0, m1, m2, m3, m4, m5⟩, ⟨t0, t1, t2, t3, t4, t5⟩, ⟨a4, a5, a6, a7⟩, a8⟩, ⟨E, b1, b2⟩, ⟨O, T, H, d1, d2, d3, d4⟩, ⟨r1, r2, e1, e2, e3⟩, ⟨r, f1, f2⟩, ⟨q1, q2, q3, q4, q5, g1, g2, g3, g4, g5⟩⟩ := R
  have eN : N0 = N := by
    rw [e] at m5; injection m5 with m5; injection m5 with m5
    simp only [Prod.mk.injEq] at m5; exact m5.2.2.symm
  subst eN
  refine ⟨⟨pa, fp, sm, Z, P, W, X, K, N', (hput_ne (by omega)).trans a1, ⟨(hput_ne (by omega)).trans m0, (hput_ne (by omega)).trans m1, (hput_ne (by omega)).trans m2, (hput_ne (by omega)).trans m3, (hput_ne (by omega)).trans m4, hput_eq⟩, ⟨t0, t1, t2, t3, t4, fun i hi => ?_⟩, ⟨a4, a5, a6, fun k y hk => ?_⟩, a8⟩, ⟨E, (hput_ne (by omega)).trans b1, b2⟩, ⟨O, T, H, (hput_ne (by omega)).trans d1, (hput_ne (by omega)).trans d2, (hput_ne (by omega)).trans d3, d4⟩, ⟨r1, r2, (hput_ne (by omega)).trans e1, (hput_ne (by omega)).trans e2, e3⟩, ⟨r, (hput_ne (by omega)).trans f1, f2⟩, ⟨q1, q2, q3, q4, q5, (hput_ne (by omega)).trans g1, (hput_ne (by omega)).trans g2, (hput_ne (by omega)).trans g3, (hput_ne (by omega)).trans g4, (hput_ne (by omega)).trans g5⟩⟩
  · have := h2 i hi; show N' (12 * 0 + i) = g i; simpa using this
  · obtain ⟨y0, y1, y2, y3, y4, y5⟩ := a7 k y hk
    exact ⟨y0, y1, y2, y3, y4, fun i hi => (h1 _ (by omega)).trans (y5 i hi)⟩
end
