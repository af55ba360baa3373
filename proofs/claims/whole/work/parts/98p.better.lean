/-! better: both sides -/
theorem r_moves {hist : List Scn} {x : Aux} {flt : Int} {g : Int} (hg : 0 ≤ g ∧ g ≤ 3) (hh : ∀ y ∈ hist, sn y ≤ 12) : ∀ (k N : Nat) (mv : Int) (h : Hp) (s : Scn) (U : Nat → Int), Pot g (cst (sn s) (sW s) (sX s) (sK s) g (sf s)) k → k + 2 ≤ N → 0 ≤ mv → mv + k < 1000000 → RI h s hist x flt → GSc s → h.2 79 = some (arr 0 144 U) → Eqn 144 U (sW s) → ∃ (m : Nat) (f' : Nat → Int) (h' : Hp), fX12_better_30 N 62 g mv 1 h = some (mv + m, h') ∧ Pth (sn s) (sW s) (sX s) (sK s) g m (sf s) f' ∧ RI h' (setf s f') hist x flt ∧ FM h h' := by
  have one : ∀ (N : Nat) (mv : Int) (h : Hp) (s : Scn) (U : Nat → Int), RI h s hist x flt → GSc s → h.2 79 = some (arr 0 144 U) → Eqn 144 U (sW s) → ∃ h1, FM h h1 ∧ RI h1 s hist x flt ∧ h1.2 79 = some (arr 0 144 U) ∧ RB (sn s) (sf s) h1 (BS (sn s) (sW s) (sX s) (sK s) g (sf s)) ∧ fX12_better_30 (N + 1) 62 g mv 1 h = fX12_better_257 (fX12_better_30 N) 62 g mv (cst (sn s) (sW s) (sX s) (sK s) g (sf s)) (BS (sn s) (sW s) (sX s) (sK s) g (sf s)).1 h1 := by
    intro N mv h s U R G u eU
    have hn := G.2.1
    obtain ⟨N0, m, q⟩ := R.nam
    obtain ⟨pa, fp, sm, o⟩ := R.obj
    obtain ⟨h1, e1, B1, R1, F1⟩ := r_scan R G hg u eU (fX12_better_30 N) mv
    refine ⟨h1, FM.of F1 (fun k hk => by omega), R1, (F1.2 79 (by omega)).trans u, B1, ?_⟩
    rw [fX12_better_30, if_neg (by decide), gR 5 o rfl, ob, R.cb, ob, r_cost R G m (by omega) u eU (G.rgs.congr (fun i hi => (q i hi).symm)) hg, ob, cst_congr hn (fun _ _ => rfl) (fun _ _ => rfl) (fun _ _ => rfl) q g]
    show ((getR h 11 62 5).bind fun _ => _) = _
    rw [gR 5 o rfl, ob]
    show ((cob h 11 62).bind fun _ => _) = _
    rw [R.cb, ob]
    show ((fX12_heaps 62 68 h).bind fun _ => _) = _
    rw [r_heapsN R G, ob]
    exact e1
  have stop : ∀ (N : Nat) (mv : Int) (h : Hp) (s : Scn) (U : Nat → Int), RI h s hist x flt → GSc s → h.2 79 = some (arr 0 144 U) → Eqn 144 U (sW s) → BS (sn s) (sW s) (sX s) (sK s) g (sf s) = (cst (sn s) (sW s) (sX s) (sK s) g (sf s), -1, -1) → ∃ (m : Nat) (f' : Nat → Int) (h' : Hp), fX12_better_30 (N + 1 + 1) 62 g mv 1 h = some (mv + m, h') ∧ Pth (sn s) (sW s) (sX s) (sK s) g m (sf s) f' ∧ RI h' (setf s f') hist x flt ∧ FM h h' := by
    intro N mv h s U R G u eU y
    obtain ⟨h1, F1, R1, u1, B1, e1⟩ := one (N + 1) mv h s U R G u eU
    refine ⟨0, sf s, h1, ?_, ⟨by rw [y], fun _ _ => rfl⟩, R1, F1⟩
    rw [e1, y, fX12_better_257, if_pos ((lCmp_ge _ _).mpr (Int.le_refl _)), fX12_better_270, if_pos rfl, fX12_better_286, fX12_better_30, if_pos rfl, fX12_better_289]
    simp
  have go : ∀ (N : Nat) (mv : Int) (h : Hp) (s : Scn) (U : Nat → Int), RI h s hist x flt → GSc s → h.2 79 = some (arr 0 144 U) → Eqn 144 U (sW s) → 0 ≤ mv → mv < 1000000 → ∀ t v : Nat, BS (sn s) (sW s) (sX s) (sK s) g (sf s) = (mc (sn s) (sW s) (sX s) (sK s) g (sf s) t v, (t : Int), (v : Int)) → mc (sn s) (sW s) (sX s) (sK s) g (sf s) t v < cst (sn s) (sW s) (sX s) (sK s) g (sf s) → ∃ (g1 : Nat → Int) (h2 : Hp), RN (sn s) (ups (sf s) t v) g1 ∧ RI h2 (setf s g1) hist x flt ∧ h2.2 79 = some (arr 0 144 U) ∧ FM h h2 ∧ fX12_better_30 (N + 1) 62 g mv 1 h = fX12_better_30 N 62 g (mv + 1) 1 h2 := by
    intro N mv h s U R G u eU hm1 hm2 t v y hlt
    have hn := G.2.1
    obtain ⟨h1, F1, R1, u1, B1, e1⟩ := one N mv h s U R G u eU
    obtain ⟨b, g1, m1, N1, q1⟩ := B1 t v (by rw [y])
    obtain ⟨h2, e2, R2, F2⟩ := r_become R1 hn hh (Or.inr rfl) m1 q1
    obtain ⟨pa, fp, sm, o⟩ := R1.obj
    refine ⟨g1, h2, N1, R2, (F2.2 79 (by omega)).trans u1, F1.tr (FM.of F2 (fun k hk => by omega)), ?_⟩
    rw [e1, y, fX12_better_257, if_neg (fun w => by have := (lCmp_ge _ _).mp w; omega), fX12_better_270, if_neg (by decide), gR 21 o rfl, ob, R1.cb, ob, e2, ob, c32_n (by omega) (by omega), ob, fX12_better_286]
  intro k
  induction k with
  | zero =>
    intro N mv h s U hp hN hm1 hm2 R G u eU
    obtain ⟨N, rfl⟩ : ∃ k, N = k + 1 + 1 := ⟨N - 2, by omega⟩
    rcases (BS_sp (n := sn s) (W := sW s) (X := sX s) (K := sK s) (f := sf s) (g := g)).1 with y | ⟨t, v, y1, y2, y3, y4, y5⟩
    · exact stop N mv h s U R G u eU y
    · obtain ⟨g1, h2, N1, -⟩ := go (N + 1) mv h s U R G u eU hm1 (by omega) t v y4 y5
      obtain ⟨f1, f2, f3⟩ := fall_ok G hg (by rw [y4]) N1
      obtain ⟨k', hk', -⟩ := hp.step f1 f2 f3
      omega
  | succ k ih =>
    intro N mv h s U hp hN hm1 hm2 R G u eU
    obtain ⟨N, rfl⟩ : ∃ k, N = k + 1 + 1 := ⟨N - 2, by omega⟩
    rcases (BS_sp (n := sn s) (W := sW s) (X := sX s) (K := sK s) (f := sf s) (g := g)).1 with y | ⟨t, v, y1, y2, y3, y4, y5⟩
    · exact stop N mv h s U R G u eU y
    · obtain ⟨g1, h2, N1, R2, u2, F2, e2⟩ := go (N + 1) mv h s U R G u eU hm1 (by omega) t v y4 y5
      obtain ⟨f1, f2, f3⟩ := fall_ok G hg (by rw [y4]) N1
      obtain ⟨k', hk', hp'⟩ := hp.step f1 f2 f3
      have : k' = k := by omega
      subst this
      obtain ⟨m, f', h3, e3, p3, R3, F3⟩ := ih (N + 1) (mv + 1) h2 (setf s g1) U hp' (by omega) (by omega) (by omega) R2 (setf_good G N1.1) u2 eU
      refine ⟨m + 1, f', h3, ?_, ⟨t, v, g1, by rw [y4], N1, p3⟩, R3, F2.tr F3⟩
      rw [e2, e3]
      congr 2
      omega
theorem Pot.of {s : Scn} (G : GSc s) {g : Int} (hg : 0 ≤ g ∧ g ≤ 3) : ∃ k : Nat, k ≤ 200000 ∧ Pot g (cst (sn s) (sW s) (sX s) (sK s) g (sf s)) k := by
  have hn := G.2.1
  by_cases z : g = 0
  · subst z
    exact ⟨5000, by omega, Pot.ini0 (cst_bd hn G.wok G.xok G.rgs).2⟩
  · exact ⟨200000, by omega, Pot.ini z (cst_200 hn G.wok G.xok (fun a b ha hb => G.2.2.2.2.2.2.2.1 a b (by omega) (by omega)) (fun a b ha hb => G.2.2.2.2.2.2.2.2.2.2.1 a b (by omega) (by omega)) G.rgs (by omega))⟩
theorem both_better {h : Hp} (B : Both h) (a : Int) : ∃ r h1 h2, fX11_better 1 a h = some (r, h1) ∧ fX12_better 62 a h1 = some (r, h2) ∧ Both h2 := by
  obtain ⟨s, hist, x, flt, G, C, R⟩ := B
  have hn := G.1.2.1
  by_cases e : 0 ≤ a ∧ a ≤ 3
  · obtain ⟨k, hk, hp⟩ := Pot.of G.1 e
    obtain ⟨h1, e1, C1, F1⟩ := c_change C hn
    obtain ⟨m, f', h2, e2, p2, q2, C2, F2⟩ := c_moves e k FU 0 h1 s hp (FU_lt (by omega)) (by omega) (by omega) C1 G.1
    obtain ⟨h3, h4, e3, R3, F3, e4, R4, F4⟩ := change2 G R (F1.tr F2)
    obtain ⟨h5, U, e5, u5, q5, R5, F5⟩ := r_useWays R4
    obtain ⟨m', f'', h6, e6, p6, R6, F6⟩ := r_moves e (hist12 G) k FU 0 h5 s U hp (by have := FU_ge; omega) (by omega) (by omega) R5 G.1 u5 q5
    obtain ⟨em, ef⟩ := Pth.uq hn m m' (sf s) (sf s) f' f'' (fun _ _ => rfl) p2 p6
    subst em
    obtain ⟨g0, r1, r2, o, -⟩ := C1.2.2.2.2.2.2.2.1.2.2.2.1
    have C3 := setf_uniq C2 ef
    refine ⟨0 + m, h2, h6, ?_, ?_, bo ⟨setf_good G.1 (q2.congr ef), take20_good G.1 G.2.1, G.2.2⟩ C3 (F4.tr ((FM.of F5 (fun k hk => by omega)).tr F6)) R6⟩
    · unfold fX11_better
      rw [c_isGoal, ob, if_pos e, if_neg one0]
      show ((cob h 10 1).bind fun _ => _) = _
      rw [co C.1, ob, C.cr1, ob, e1, ob, gR 8 C1.1 rfl, ob, gR 0 C1.1 rfl, ob, co o, ob]
      show ((fX4_run_2 FU 41 2 a 0 h1).bind fun p9 => some (p9.1, p9.2)) = _
      rw [e2, ob]
    · unfold fX12_better
      rw [e3, ob, r_isGoal, ob, if_pos e, if_neg one0]
      show ((cob h3 11 62).bind fun _ => _) = _
      rw [R3.cb, ob, e4, ob, R4.cb, ob, e5, ob, e6]
  · obtain ⟨h2, h3, e2, R2, e3, B3⟩ := refuse2 G C R 1
    refine ⟨-1, hput h 1 (BO 1), h3, ?_, ?_, B3⟩
    · unfold fX11_better
      rw [c_isGoal, ob, if_neg e, if_pos rfl]
      show ((cob h 10 1).bind fun _ => _) = _
      rw [co C.1, ob, c_refuse C 1, ob]
    · unfold fX12_better
      rw [e2, ob, r_isGoal, ob, if_neg e, if_pos rfl]
      show ((cob h2 11 62).bind fun _ => _) = _
      rw [R2.cb, ob, e3, ob]
