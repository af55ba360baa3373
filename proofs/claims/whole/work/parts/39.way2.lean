theorem M6.uq {h : Hp} {Z P W X K N Z' P' W' X' K' N' : Nat → Int} (a : M6 h Z P W X K N) (b : M6 h Z' P' W' X' K' N') : Z' = Z ∧ P' = P ∧ W' = W ∧ X' = X ∧ K' = K ∧ N' = N := by
  obtain ⟨a0, a1, a2, a3, a4, a5⟩ := a
  obtain ⟨b0, b1, b2, b3, b4, b5⟩ := b
  rw [a0] at b0; rw [a1] at b1; rw [a2] at b2; rw [a3] at b3; rw [a4] at b4; rw [a5] at b5
  injection b0 with b0; injection b0 with b0; injection b1 with b1; injection b1 with b1; injection b2 with b2; injection b2 with b2; injection b3 with b3; injection b3 with b3; injection b4 with b4; injection b4 with b4; injection b5 with b5; injection b5 with b5
  simp only [Prod.mk.injEq] at b0 b1 b2 b3 b4 b5
  exact ⟨b0.2.2.symm, b1.2.2.symm, b2.2.2.symm, b3.2.2.symm, b4.2.2.symm, b5.2.2.symm⟩
theorem r_way {h : Hp} {s : Scn} {hist : List Scn} {x : Aux} {flt : Int} (R : RI h s hist x flt) (G : Good s hist x) (a b v : Int) :
    (∀ i j : Nat, a = i → b = j → i < sn s → j < sn s → i ≠ j → 0 ≤ v → v ≤ 10000 → ∃ h', fX12_way 62 a b v h = some (sW s (12 * i + j), h') ∧ RI h' (setW s i j v) ((s :: hist).take 20) x 0 ∧ FM h h') ∧
    (¬ ((0 ≤ a ∧ a < sn s) ∧ (0 ≤ b ∧ b < sn s) ∧ a ≠ b ∧ 0 ≤ v ∧ v ≤ 10000) → ∃ h', fX12_way 62 a b v h = some (-1, h') ∧ RI h' s hist x 1 ∧ FM h h') := by
  have hn := G.1.2.1
  obtain ⟨h0, e0, R0, F0⟩ := R.set 0
  have bad : ∃ h', fX12_way_25 62 h0 = some (-1, h') ∧ RI h' s hist x 1 ∧ FM h h' := by
    obtain ⟨h', e, R1, F1⟩ := r_no R0 1
    unfold fX12_way_25
    rw [R0.cb, ob, e, ob]
    exact ⟨h', rfl, R1, F0.tr F1⟩
  unfold fX12_way
  rw [e0, ob, R0.cb, ob, r_arePair R0 a b, ob]
  constructor
  · intro i j ha hb hi hj hij v1 v2
    subst ha; subst hb
    have ec : (0 ≤ (i : Int) ∧ (i : Int) < sn s) ∧ (0 ≤ (j : Int) ∧ (j : Int) < sn s) ∧ (i : Int) ≠ j := ⟨⟨by omega, by omega⟩, ⟨by omega, by omega⟩, by omega⟩
    rw [if_pos ec, if_neg one0, if_neg (by omega), if_pos (by omega)]
    obtain ⟨h1, e1, R1, F1⟩ := r_change R0 G
    rw [R0.cb, ob, e1, ob]
    obtain ⟨⟨pa, fp, sm, Z, P, W, X, K, N, a1, M, S, -⟩, -⟩ := id R1
    obtain ⟨m0, m1, m2, m3, m4, m5⟩ := id M
    unfold fX12_setWay
    rw [gR 2 a1 rfl, ob, ald_of (12 * i + j) m2 (by omega) (by omega), ob, R1.cb, ob, ob, ast_of (12 * i + j) m2 (by omega) (by omega), ob, gR 2 ((hput_ne (by omega)).trans a1) rfl, ob, ast_of (12 * j + i) hput_eq (by omega) (by omega), ob, hput_hput, ob]
    have F2 : Fr (fun k => 63 ≤ k ∧ k ≤ 68) h1 (hput h1 65 (arr 0 3024 (ups (ups W (12 * i + j) v) (12 * j + i) v))) := Fr.rf.put ⟨by omega, by omega⟩
    obtain ⟨t0, t1, t2, t3, t4, t5⟩ := S
    refine ⟨_, by rw [← t2 (12 * i + j) (by omega)]; simp, R1.scene F2 ⟨(hput_ne (by omega)).trans m0, (hput_ne (by omega)).trans m1, hput_eq, (hput_ne (by omega)).trans m3, (hput_ne (by omega)).trans m4, (hput_ne (by omega)).trans m5⟩ ⟨t0, t1, fun k hk => ?_, t3, t4, t5⟩ ?_, F0.tr (F1.tr (FM.put ⟨by omega, by omega⟩))⟩
    · rw [setW_W]
      have := t2 k hk
      simp only [Nat.mul_zero, Nat.zero_add] at this ⊢
      simp only [ups_at, this]
    · intro Z0 P0 W0 X0 K0 N0 M0 t y ht1 ht2 hy
      obtain ⟨u0, u1, u2, u3, u4, u5⟩ := M.uq M0
      subst u0; subst u1; subst u2; subst u3; subst u4; subst u5
      obtain ⟨y0, y1, y2, y3, y4, y5⟩ := hy
      refine ⟨y0, y1, fun k hk => ?_, y3, y4, y5⟩
      simp only [ups_at]
      rw [if_neg (by omega), if_neg (by omega)]; exact y2 k hk
  · intro hne
    by_cases e : (0 ≤ a ∧ a < sn s) ∧ (0 ≤ b ∧ b < sn s) ∧ a ≠ b
    · rw [if_pos e, if_neg one0]
      by_cases v1 : v < 0
      · rw [if_pos v1]; exact bad
      · rw [if_neg v1]
        by_cases v2 : v ≤ 10000
        · exact absurd ⟨e.1, e.2.1, e.2.2, by omega, v2⟩ hne
        · rw [if_neg v2]; exact bad
    · rw [if_neg e, if_pos rfl]; exact bad
theorem both_way {h : Hp} (B : Both h) (a b v : Int) : ∃ r h1 h2, fX11_way 1 a b v h = some (r, h1) ∧ fX12_way 62 a b v h1 = some (r, h2) ∧ Both h2 := by
  obtain ⟨s, hist, x, flt, G, C, R⟩ := B
  rcases c_way C G a b v with ⟨i, j, ha, hb, hi, hj, hij, v1, v2, h1, e1, C1, F1⟩ | ⟨hne, h1, e1, C1, F1⟩
  · obtain ⟨h2, e2, R2, F2⟩ := (r_way (R.ag F1) G a b v).1 i j ha hb hi hj hij v1 v2
    have hn := G.1.2.1
    exact ⟨_, h1, h2, e1, e2, both_of (s := s) (hist := hist) (x := x) (flt := flt) (h := h) ⟨setW_good G.1 (by omega) (by omega) hij ⟨v1, v2⟩, take20_good G.1 G.2.1, G.2.2⟩ C1 F2 R2⟩
  · obtain ⟨h2, e2, R2, F2⟩ := (r_way (R.ag F1) G a b v).2 hne
    exact ⟨_, h1, h2, e1, e2, both_of (s := s) (hist := hist) (x := x) (flt := flt) (h := h) G C1 F2 R2⟩
