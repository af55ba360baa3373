def setK (x : Aux) (k : Nat) (y : Nat × (Nat → Int)) : Aux := (x.1, x.2.1, (fun j => if j = k then y else x.2.2.1 j), x.2.2.2)
section
variable {h h' : Hp} {s : Scn} {hist : List Scn} {x : Aux} {flt : Int}
theorem CI.kep {k : Nat} {y : Nat × (Nat → Int)} (C : CI h s hist x flt) (hk : k < 4) (F : Fr (pts (50 + 3 * k)) h h') (N : ∃ c f, isPt h' (50 + 3 * k) y.1 c f ∧ Eqn y.1 f y.2) : CI h' s hist (setK x k y) flt := by
  obtain ⟨c1, c2, ⟨A, nx, c3⟩, c4, c5, ⟨⟨r, c6, c6a⟩, c6b⟩, c7, c8, c9⟩ := C
  have e : ∀ j, j < 50 + 3 * k ∨ 52 + 3 * k < j → h'.2 j = h.2 j := fun j z => F.2 j (by intro y; rcases y with y | y | y <;> omega)
  refine ⟨(e _ (by omega)).trans c1, c2.ag (fun j hj => e j (by obtain ⟨z1, z2⟩ := hj; omega)), ⟨A, nx, c3.ag F.1 (fun k hk => e k (by omega))⟩, c4.ag (fun k hk => e k (by omega)), c5.ag (fun k hk => e k (by omega)), ⟨⟨r, (e _ (by omega)).trans c6, c6a⟩, fun j hj => ?_⟩, c7.ag (fun k hk => e k (by omega)), c8.ag (fun k hk => e k (by omega)), c9.ag (fun k hk => e k (by omega))⟩
  by_cases z : j = k
  · subst z
    have : (setK x j y).2.2.1 j = y := if_pos rfl
    rw [this]; exact N
  · have : (setK x k y).2.2.1 j = x.2.2.1 j := if_neg z
    rw [this]
    obtain ⟨c, f, p, q⟩ := c6b j hj
    exact ⟨c, f, p.ag (fun l h1 h2 => e l (by omega)), q⟩
theorem RI.kps (R : RI h s hist x flt) : ∃ r1 r2, h.2 73 = some (arr 0 4 r1) ∧ h.2 74 = some (arr 0 48 r2) ∧ ∀ j, j < 4 → r1 j = ((x.2.2.1 j).1 : Int) ∧ ∀ i, i < (x.2.2.1 j).1 → r2 (12 * j + i) = (x.2.2.1 j).2 i := R.2.2.2.1
theorem RI.kep {x' : Aux} (R : RI h s hist x flt) (F : Fr (fun j => j = 73 ∨ j = 74) h h') (hx : x' = (x.1, x.2.1, x'.2.2.1, x.2.2.2)) (N : ∃ r1 r2, h'.2 73 = some (arr 0 4 r1) ∧ h'.2 74 = some (arr 0 48 r2) ∧ ∀ j, j < 4 → r1 j = ((x'.2.2.1 j).1 : Int) ∧ ∀ i, i < (x'.2.2.1 j).1 → r2 (12 * j + i) = (x'.2.2.1 j).2 i) : RI h' s hist x' flt := by
  obtain ⟨⟨pa, fp, sm, Z, P, W, X, K, N, a1, ⟨m0, m1, m2, m3, m4, m5⟩, a3⟩, ⟨E, b1, b2⟩, ⟨O, T, H, d1, d2, d3, d4⟩, -, ⟨r, f1, f2⟩, ⟨q1, q2, q3, q4, q5, g1, g2, g3, g4, g5⟩⟩ := R
  have kk : ∀ j, j ≠ 73 → j ≠ 74 → h'.2 j = h.2 j := fun j z1 z2 => F.2 j (by omega)
  generalize hy : x'.2.2.1 = y at hx N
  subst hx
  exact ⟨⟨pa, fp, sm, Z, P, W, X, K, _, (kk _ (by omega) (by omega)).trans a1, ⟨(kk _ (by omega) (by omega)).trans m0, (kk _ (by omega) (by omega)).trans m1, (kk _ (by omega) (by omega)).trans m2, (kk _ (by omega) (by omega)).trans m3, (kk _ (by omega) (by omega)).trans m4, (kk _ (by omega) (by omega)).trans m5⟩, a3⟩, ⟨E, (kk _ (by omega) (by omega)).trans b1, b2⟩, ⟨O, T, H, (kk _ (by omega) (by omega)).trans d1, (kk _ (by omega) (by omega)).trans d2, (kk _ (by omega) (by omega)).trans d3, d4⟩, N, ⟨r, (kk _ (by omega) (by omega)).trans f1, f2⟩, ⟨q1, q2, q3, q4, q5, (kk _ (by omega) (by omega)).trans g1, (kk _ (by omega) (by omega)).trans g2, (kk _ (by omega) (by omega)).trans g3, (kk _ (by omega) (by omega)).trans g4, (kk _ (by omega) (by omega)).trans g5⟩⟩
def kw (s : Scn) (x : Aux) (a : Int) : Int := if 0 ≤ a ∧ a < 4 then (if (x.2.2.1 a.toNat).1 = sn s then 0 else 2) else 1
theorem c_kept (C : CI h s hist x flt) {k : Nat} (hk : k < 4) : ∃ c f, isPt h (50 + 3 * k) (x.2.2.1 k).1 c f ∧ Eqn (x.2.2.1 k).1 f (x.2.2.1 k).2 ∧ getR h 10 1 4 = some 19 ∧ rld h 5 19 k = some (50 + 3 * k) := by
  obtain ⟨⟨r, c6, c6a⟩, c6b⟩ := C.2.2.2.2.2.1
  obtain ⟨c, f, p, q⟩ := c6b k hk
  exact ⟨c, f, p, q, gR 4 C.1 rfl, by rw [rld_of k c6 rfl hk, c6a k hk]⟩
theorem c_keepFault (C : CI h s hist x flt) (a : Int) : fX11_keepFault 1 a h = some (kw s x a, h) := by
  unfold fX11_keepFault kw
  simp only [fX11_keepFault_9, fX11_keepFault_35]
  by_cases e1 : a < 0
  · rw [if_pos e1, if_neg (by omega)]
  · rw [if_neg e1]
    by_cases e2 : a < 4
    · obtain ⟨k, rfl⟩ := Int.eq_ofNat_of_zero_le (show 0 ≤ a by omega)
      obtain ⟨c, f, p, q, g1, g2⟩ := c_kept C (k := k) (by omega)
      rw [if_pos e2, g1, ob, g2, ob, gI 0 p.1 rfl, ob, gR 0 C.1 rfl, ob, gI 0 C.now rfl, ob, if_pos (show 0 ≤ (k : Int) ∧ (k : Int) < 4 from ⟨by omega, e2⟩), Int.toNat_natCast]
      by_cases e3 : (x.2.2.1 k).1 = sn s
      · rw [if_pos (by omega), if_pos e3]
      · rw [if_neg (by omega), if_neg e3]
    · rw [if_neg e2, if_neg (by omega)]
theorem r_keepWhy (R : RI h s hist x flt) (a : Int) : fX12_keepWhy 62 a h = some (kw s x a, h) := by
  obtain ⟨pa, fp, sm, o⟩ := R.obj
  obtain ⟨r1, r2, m1, m2, q⟩ := R.kps
  unfold fX12_keepWhy kw
  simp only [fX12_keepWhy_9, fX12_keepWhy_31]
  by_cases e1 : a < 0
  · rw [if_pos e1, if_neg (by omega)]
  · rw [if_neg e1]
    by_cases e2 : a < 4
    · obtain ⟨k, rfl⟩ := Int.eq_ofNat_of_zero_le (show 0 ≤ a by omega)
      rw [if_pos e2, gR 15 o rfl, ob, ald_of k m1 rfl (by omega), ob, R.nb, (q k (by omega)).1, if_pos (show 0 ≤ (k : Int) ∧ (k : Int) < 4 from ⟨by omega, e2⟩), Int.toNat_natCast]
      by_cases e3 : (x.2.2.1 k).1 = sn s
      · rw [if_pos (by show (((x.2.2.1 k).1 : Nat) : Int) = sn s; omega), if_pos e3]
      · rw [if_neg (by show ¬ (((x.2.2.1 k).1 : Nat) : Int) = sn s; omega), if_neg e3]
    · rw [if_neg e2, if_neg (by omega)]
end
theorem both_keep {h : Hp} (B : Both h) (a : Int) : ∃ r h1 h2, fX11_keep 1 a h = some (r, h1) ∧ fX12_keep 62 a h1 = some (r, h2) ∧ Both h2 := by
  obtain ⟨s, hist, x, flt, G, C, R⟩ := B
  have hn := G.1.2.1
  unfold fX11_keep fX12_keep
  simp only [fX11_keep_9, fX12_keep_14]
  by_cases e : 0 ≤ a ∧ a < 4
  · obtain ⟨k, rfl⟩ := Int.eq_ofNat_of_zero_le e.1
    have hk : k < 4 := by omega
    have C1 := C.set 0
    obtain ⟨c, f, p, q, g1, g2⟩ := c_kept C1 hk
    obtain ⟨f7, P7, q7⟩ := C1.par
    obtain ⟨h2, f2, e2, P2, q2, F2⟩ := ptCopy_ok p P7 (by omega)
    have C2 := C1.kep (y := (sn s, sf s)) hk F2 ⟨_, f2, P2, fun i hi => (q2 i (by have : i < sn s := hi; omega)).trans (q7 i hi)⟩
    have FCa : FC h h2 := (FC.put (q := 1) (by omega)).tr (FC.of F2 (fun j hj => by rcases hj with z | z | z <;> omega))
    obtain ⟨h3, e3, R3, Fm3⟩ := (R.ag FCa).set 0
    obtain ⟨pa, fp, sm, o⟩ := R3.obj
    obtain ⟨r1, r2, m1, m2, qk⟩ := R3.kps
    obtain ⟨N, mN, qN⟩ := R3.nam
    have L : ∃ r3, fX12_keep_34 FU 62 k 0 (hput h3 73 (arr 0 4 (ups r1 k (sn s)))) = some (1, hput (hput h3 73 (arr 0 4 (ups r1 k (sn s)))) 74 (arr 0 48 r3)) ∧ (∀ i, i < sn s → r3 (12 * k + i) = sf s i) ∧ ∀ j, j < 12 * k ∨ 12 * k + 12 ≤ j → r3 j = r2 j := by
      have z := lp (fun M i (F : Nat → Int) => fX12_keep_34 M 62 k i (hput (hput h3 73 (arr 0 4 (ups r1 k (sn s)))) 74 (arr 0 48 F))) (fun i F => (∀ j, j < i → F (12 * k + j) = sf s j) ∧ ∀ j, j < 12 * k ∨ 12 * k + 12 ≤ j → F j = r2 j) (sn s) (fun r => ∃ r3, r = some (1, hput (hput h3 73 (arr 0 4 (ups r1 k (sn s)))) 74 (arr 0 48 r3)) ∧ (∀ i, i < sn s → r3 (12 * k + i) = sf s i) ∧ ∀ j, j < 12 * k ∨ 12 * k + 12 ≤ j → r3 j = r2 j) ?_ ?_ FU 0 r2 (Nat.zero_le _) (FU_lt (by omega)) ⟨fun j hj => by omega, fun _ _ => rfl⟩
      · rw [show hput (hput h3 73 (arr 0 4 (ups r1 k (sn s)))) 74 (arr 0 48 r2) = hput h3 73 (arr 0 4 (ups r1 k (sn s))) from hput_self ((hput_ne (by omega)).trans m2)] at z
        exact z
      · intro M i F hi ⟨a1, a2⟩
        simp only [fX12_keep_34]
        rw [R3.nbA ((hput_ne (by omega)).trans (hput_ne (by omega))) ((hput_ne (by omega)).trans (hput_ne (by omega))), if_neg (by show ¬ (sn s : Int) ≤ i; omega), gR 16 ((hput_ne (by omega)).trans ((hput_ne (by omega)).trans o)) rfl, ob, gR 5 ((hput_ne (by omega)).trans ((hput_ne (by omega)).trans o)) rfl, ob, ald_of i ((hput_ne (by omega)).trans ((hput_ne (by omega)).trans mN)) rfl (by omega), ob, ast_of (12 * k + i) hput_eq (by omega) (by omega), ob, hput_hput, c32_n (by omega) (by omega), ob]
        refine ⟨ups F (12 * k + i) (N i), ⟨fun j hj => ?_, fun j hj => ?_⟩, rfl⟩
        · rw [ups_at]
          by_cases z : j = i
          · subst z; rw [if_pos rfl]; exact qN j hi
          · rw [if_neg (by omega)]; exact a1 j (by omega)
        · rw [ups_at, if_neg (by omega)]; exact a2 j hj
      · intro M F ⟨a1, a2⟩
        simp only [fX12_keep_34, fX12_keep_65]
        rw [R3.nbA ((hput_ne (by omega)).trans (hput_ne (by omega))) ((hput_ne (by omega)).trans (hput_ne (by omega))), if_pos (by show (sn s : Int) ≤ sn s; omega)]
        exact ⟨F, rfl, a1, a2⟩
    obtain ⟨r3, e4, n4, k4⟩ := L
    have R4 := R3.kep (x' := setK x k (sn s, sf s)) (h' := hput (hput h3 73 (arr 0 4 (ups r1 k (sn s)))) 74 (arr 0 48 r3)) ((Fr.rf.put (Or.inl rfl)).put (Or.inr rfl)) rfl ⟨_, r3, (hput_ne (by omega)).trans hput_eq, hput_eq, fun j hj => by
      by_cases z : j = k
      · subst z
        have : (setK x j (sn s, sf s)).2.2.1 j = (sn s, sf s) := if_pos rfl
        rw [this]
        exact ⟨by simp [ups_at], fun i hi => n4 i hi⟩
      · have : (setK x k (sn s, sf s)).2.2.1 j = x.2.2.1 j := if_neg z
        rw [this]
        have g12 := (G.2.2.2.2.1 j hj).1
        exact ⟨by rw [ups_at, if_neg z]; exact (qk j hj).1, fun i hi => by rw [k4 _ (by omega)]; exact (qk j hj).2 i hi⟩⟩
    refine ⟨1, h2, hput (hput h3 73 (arr 0 4 (ups r1 k (sn s)))) 74 (arr 0 48 r3), ?_, ?_, bo (show Good s hist (setK x k (sn s, sf s)) from ⟨G.1, G.2.1, G.2.2.1, G.2.2.2.1, fun j hj => ?_, G.2.2.2.2.2⟩) C2 (Fm3.tr ((FM.put (q := 73) (by omega)).tr (FM.put (q := 74) (by omega)))) R4⟩
    · rw [if_neg (by omega), if_pos e.2, C.put1 0, ob, g1, ob, g2, ob, gR 0 C1.1 rfl, ob, gR 5 C1.now rfl, ob, co p.1, ob, e2, ob]
    · rw [e3, ob, if_neg (by omega), if_pos e.2, gR 15 o rfl, ob, R3.nb, ast_of k m1 rfl hk, ob, e4]
    · by_cases z : j = k
      · subst z
        have : (setK x j (sn s, sf s)).2.2.1 j = (sn s, sf s) := if_pos rfl
        rw [this]; exact ⟨hn, G.1.rgs⟩
      · have : (setK x k (sn s, sf s)).2.2.1 j = x.2.2.1 j := if_neg z
        rw [this]; exact G.2.2.2.2.1 j hj
  · obtain ⟨h2, h3, e2, R2, e3, B3⟩ := refuse2 G C R 1
    refine ⟨0, hput h 1 (BO 1), h3, ?_, ?_, B3⟩
    · by_cases e1 : a < 0
      · rw [if_pos e1, co C.1, ob, c_deny C 1, ob, cbo_n (Or.inl rfl), ob]
      · rw [if_neg e1, if_neg (by omega), co C.1, ob, c_deny C 1, ob, cbo_n (Or.inl rfl), ob]
    · rw [e2, ob]
      by_cases e1 : a < 0
      · rw [if_pos e1, R2.cb, ob, e3, ob]
      · rw [if_neg e1, if_neg (by omega), R2.cb, ob, e3, ob]
