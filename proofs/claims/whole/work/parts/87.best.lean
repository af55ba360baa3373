section
variable {h : Hp} {s : Scn} {hist : List Scn} {x : Aux} {flt : Int}
theorem GSc.nn (G : GSc s) {g : Int} (hg : 0 ≤ g ∧ g ≤ 3) {p : Nat → Int} (hp : RGS (sn s) p) : 0 ≤ cst (sn s) (sW s) (sX s) (sK s) g p :=
  cst_nn G.2.1 G.wok G.xok (fun a b ha hb => G.2.2.2.2.2.2.2.1 a b (by have := G.2.1; omega) (by have := G.2.1; omega)) (fun a b ha hb => G.2.2.2.2.2.2.2.2.2.2.1 a b (by have := G.2.1; omega) (by have := G.2.1; omega)) hg hp
theorem r_cpb (R : RI h s hist x flt) (hn : sn s ≤ 12) {F : Nat → Int} (e : h.2 76 = some (arr 0 12 F)) (K34 : Nat → Int → Int → Int → Int → Int → Hp → Option (Int × Hp)) (g lo hi c : Int) : ∃ h' b, fX12_search_87 K34 62 g lo hi c h = fX12_search_123 K34 62 g lo hi c h' ∧ h'.2 77 = some (arr 0 12 b) ∧ Eqn (sn s) b F ∧ RI h' s hist x flt ∧ Fr (fun k => k = 77) h h' := by
  obtain ⟨r1, r2, r3, r4, r5, s1, s2, s3, s4, s5⟩ := R.scr
  unfold fX12_search_87
  refine lp (fun N i (g' : Hp) => fX12_search_94 K34 N 62 g lo hi c i g') (fun i g' => ∃ b, g'.2 77 = some (arr 0 12 b) ∧ Eqn i b F ∧ RI g' s hist x flt ∧ Fr (fun k => k = 77) h g') (sn s) (fun r => ∃ h' b, r = fX12_search_123 K34 62 g lo hi c h' ∧ h'.2 77 = some (arr 0 12 b) ∧ Eqn (sn s) b F ∧ RI h' s hist x flt ∧ Fr (fun k => k = 77) h h') ?_ ?_ FU 0 h (Nat.zero_le _) (FU_lt (by omega)) ⟨r2, s2, fun j hj => by omega, R, Fr.rf⟩
  · intro N i g' hi ⟨b, a1, a2, a3, a5⟩
    obtain ⟨pa, fp, sm, o⟩ := a3.obj
    rw [fX12_search_94, a3.nb, if_neg (by show ¬ (sn s : Int) ≤ i; omega)]
    simp only []
    rw [gR 21 o rfl, ob, gR 20 o rfl, ob, ald_of i ((a5.2 76 (by omega)).trans e) rfl (by omega), ob, ast_of i a1 rfl (by omega), ob, c32_n (by omega) (by omega), ob]
    refine ⟨_, ⟨_, hput_eq, fun j hj => ?_, a3.pu (by omega) _, a5.put rfl⟩, rfl⟩
    rw [ups_at]
    by_cases z : j = i
    · rw [if_pos z, z]
    · rw [if_neg z]; exact a2 j (by omega)
  · intro N g' ⟨b, a1, a2, a3, a5⟩
    rw [fX12_search_94, a3.nb, if_pos (by show (sn s : Int) ≤ sn s; omega)]
    exact ⟨g', b, rfl, a1, a2, a3, a5⟩
set_option maxHeartbeats 4000000 in
theorem r_search34 (G : GSc s) {g lo hi : Int} (hg : 0 ≤ g ∧ g ≤ 3) {U : Nat → Int} (eU : Eqn 144 U (sW s)) : ∀ (m N : Nat) (F : Nat → Int) (L : Int) (b : Nat → Int) (h : Hp), RI h s hist x flt → h.2 76 = some (arr 0 12 F) → h.2 77 = some (arr 0 12 b) → h.2 79 = some (arr 0 144 U) → RGS (sn s) F → BSt (sn s) lo hi (fun y => cst (sn s) (sW s) (sX s) (sK s) g y) (-1) (fun y => ahead (sn s) y F) L b → (13 ^ (sn s) - val (sn s) F).toNat ≤ m → m + 2 ≤ N →
    ∃ (h' : Hp) (L' : Int) (b' : Nat → Int), fX12_search_34 N 62 g lo hi L 1 h = some (L', h') ∧ h'.2 77 = some (arr 0 12 b') ∧ BSt (sn s) lo hi (fun y => cst (sn s) (sW s) (sX s) (sK s) g y) (-1) (fun _ => True) L' b' ∧ RI h' s hist x flt ∧ Fr (fun k => k = 76 ∨ k = 77) h h' := by
  have hn := G.2.1
  have hn1 := G.1
  intro m
  induction m with
  | zero =>
    intro N F L b h R e76 e77 e79 hr B hm hN
    have := val_bd (n := sn s) (f := F) (fun i hi => by have := hr i hi; have := hr.lt hi; omega)
    omega
  | succ m ih =>
    intro N F L b h R e76 e77 e79 hr B hm hN
    obtain ⟨N, rfl⟩ : ∃ k, N = k + 1 := ⟨N - 1, by omega⟩
    obtain ⟨pa, fp, sm, o⟩ := R.obj
    have hfb : ∀ i, i < sn s → 0 ≤ F i ∧ F i ≤ 12 := fun i hi => by have := hr i hi; have := hr.lt hi; omega
    have hC : ∀ u v, Eqn (sn s) u v → (fun y => cst (sn s) (sW s) (sX s) (sK s) g y) u = (fun y => cst (sn s) (sW s) (sX s) (sK s) g y) v := fun u v e => cst_congr hn (fun _ _ => rfl) (fun _ _ => rfl) (fun _ _ => rfl) e g
    have cnn : ∀ p, RGS (sn s) p → 0 ≤ cst (sn s) (sW s) (sX s) (sK s) g p := fun p hp => G.nn hg hp
    -- the next name
    have go : ∀ (h1 : Hp) (L1 : Int) (b1 : Nat → Int), RI h1 s hist x flt → h1.2 76 = some (arr 0 12 F) → h1.2 77 = some (arr 0 12 b1) → h1.2 79 = some (arr 0 144 U) → Fr (fun k => k = 76 ∨ k = 77) h h1 → BSt (sn s) lo hi (fun y => cst (sn s) (sW s) (sX s) (sK s) g y) (-1) (fun y => ahead (sn s) y F ∨ Eqn (sn s) y F) L1 b1 → ∃ (h' : Hp) (L' : Int) (b' : Nat → Int), fX12_search_123 (fX12_search_34 N) 62 g lo hi L1 h1 = some (L', h') ∧ h'.2 77 = some (arr 0 12 b') ∧ BSt (sn s) lo hi (fun y => cst (sn s) (sW s) (sX s) (sK s) g y) (-1) (fun _ => True) L' b' ∧ RI h' s hist x flt ∧ Fr (fun k => k = 76 ∨ k = 77) h h' := by
      intro h1 L1 b1 R1 a76 a77 a79 Fr1 B1
      rw [fX12_search_123, R1.cb, ob]
      rcases r_next R1 hn1 hn a76 hr with ⟨h2, F', k, e2, m2, hs, R2, Fr2⟩ | ⟨e2, hl⟩
      · rw [e2, ob]
        have hr' := hs.rgs hr
        have hfb' : ∀ i, i < sn s → 0 ≤ F' i ∧ F' i ≤ 12 := fun i hi => by have := hr' i hi; have := hr'.lt hi; omega
        have hv := val_lt hfb hfb' ((hs.ahead_iff hr).mpr (Or.inr (fun _ _ => rfl)))
        have hv2 := val_bd hfb'
        obtain ⟨h3, L3, b3, e3, q1, q2, q3, q4⟩ := ih N F' L1 b1 h2 R2 m2 ((Fr2.2 77 (by omega)).trans a77) ((Fr2.2 79 (by omega)).trans a79) hr' (B1.mono (fun y hy => (hs.ahead_iff hy.1).symm)) (by omega) (by omega)
        exact ⟨h3, L3, b3, e3, q1, q2, q3, Fr1.tr ((Fr2.mono (fun k hk => Or.inl hk)).tr q4)⟩
      · rw [e2, ob]
        obtain ⟨N', rfl⟩ : ∃ k, N = k + 1 := ⟨N - 1, by omega⟩
        refine ⟨h1, L1, b1, ?_, a77, B1.mono (fun y hy => ⟨fun _ => trivial, fun _ => ?_⟩), R1, Fr1⟩
        · show fX12_search_34 (N' + 1) 62 g lo hi L1 0 h1 = _
          rw [fX12_search_34, if_pos rfl, fX12_search_132]
        · exact (lastwise (k := 0) hy.1 (fun j h1 h2 => hl j (by omega) h2) (sn s) (Nat.le_refl _) (fun i hi _ => by
            have : i = 0 := by omega
            rw [this, hy.1.zero (by omega), hr.zero (by omega)])).symm
    rw [fX12_search_34, if_neg (by omega), gR 20 o rfl, ob, R.cb, ob, r_heaps R hn e76 hn (fun i hi => by have := hfb i hi; omega), ob]
    have skip : ¬ Qn (sn s) lo hi F → BSt (sn s) lo hi (fun y => cst (sn s) (sW s) (sX s) (sK s) g y) (-1) (fun y => ahead (sn s) y F ∨ Eqn (sn s) y F) L b := fun hq =>
      B.mono (fun y hy => ⟨Or.inl, fun z => z.resolve_right (fun e => hq (hy.congr e))⟩)
    by_cases c1 : mx F (sn s) < lo
    · rw [if_pos c1]
      exact go h L b R e76 e77 e79 Fr.rf (skip (fun z => by have := z.2.1; omega))
    · rw [if_neg c1]
      by_cases c2 : hi < mx F (sn s)
      · rw [if_pos c2]
        exact go h L b R e76 e77 e79 Fr.rf (skip (fun z => by have := z.2.2; omega))
      · have hq : Qn (sn s) lo hi F := ⟨hr, by omega, by omega⟩
        have hcF := cnn F hr
        obtain ⟨ad1, ad2⟩ := B.add (A' := fun y => ahead (sn s) y F ∨ Eqn (sn s) y F) hC hq (fun y _ => Iff.rfl) (fun y _ z => z) (by show cst (sn s) (sW s) (sX s) (sK s) g F ≠ -1; omega)
        rw [if_neg c2]
        simp only []
        rw [gR 20 o rfl, ob, R.cb, ob, r_cost R G e76 hn e79 eU hr hg, ob]
        have take : (L = -1 ∨ cst (sn s) (sW s) (sX s) (sK s) g F < L) → ∃ (h' : Hp) (L' : Int) (b' : Nat → Int), fX12_search_87 (fX12_search_34 N) 62 g lo hi (cst (sn s) (sW s) (sX s) (sK s) g F) h = some (L', h') ∧ h'.2 77 = some (arr 0 12 b') ∧ BSt (sn s) lo hi (fun y => cst (sn s) (sW s) (sX s) (sK s) g y) (-1) (fun _ => True) L' b' ∧ RI h' s hist x flt ∧ Fr (fun k => k = 76 ∨ k = 77) h h' := by
          intro hlt
          obtain ⟨h1, b1, e1, m1, q1, R1, Fr1⟩ := r_cpb R hn e76 (fX12_search_34 N) g lo hi (cst (sn s) (sW s) (sX s) (sK s) g F)
          rw [e1]
          exact go h1 _ b1 R1 ((Fr1.2 76 (by omega)).trans e76) m1 ((Fr1.2 79 (by omega)).trans e79) (Fr1.mono (fun k hk => Or.inr hk)) (ad1 hlt b1 q1)
        have hLr : L = -1 ∨ 0 ≤ L := by
          rcases B with ⟨z, -⟩ | ⟨-, z1, -, z3, -⟩
          · exact Or.inl z
          · right; rw [← z3]; exact cnn b z1.1
        by_cases c3 : L < 0
        · rw [if_pos ((lCmp_lt _ _).mpr c3)]
          exact take (by omega)
        · rw [if_neg (fun z => c3 ((lCmp_lt _ _).mp z))]
          by_cases c4 : L ≤ cst (sn s) (sW s) (sX s) (sK s) g F
          · rw [if_pos ((lCmp_ge _ _).mpr c4)]
            exact go h L b R e76 e77 e79 Fr.rf (ad2 (by omega) c4)
          · rw [if_neg (fun z => c4 ((lCmp_ge _ _).mp z))]
            exact take (by omega)
theorem r_search (R : RI h s hist x flt) (G : GSc s) (hn9 : sn s ≤ 9) {g lo hi : Int} (hg : 0 ≤ g ∧ g ≤ 3) {U : Nat → Int} (u : h.2 79 = some (arr 0 144 U)) (eU : Eqn 144 U (sW s)) : ∃ (h' : Hp) (L : Int) (b : Nat → Int), fX12_search 62 g lo hi h = some (L, h') ∧ h'.2 77 = some (arr 0 12 b) ∧ BSt (sn s) lo hi (fun y => cst (sn s) (sW s) (sX s) (sK s) g y) (-1) (fun _ => True) L b ∧ RI h' s hist x flt ∧ Fr (fun k => k = 76 ∨ k = 77) h h' := by
  have hn := G.2.1
  have hn1 := G.1
  obtain ⟨r1, r2, r3, r4, r5, s1, s2, s3, s4, s5⟩ := R.scr
  have L1 : ∃ g1 F, fX12_search 62 g lo hi h = fX12_search_26 62 g lo hi g1 ∧ g1.2 76 = some (arr 0 12 F) ∧ (∀ t, t < sn s → F t = 0) ∧ RI g1 s hist x flt ∧ Fr (fun k => k = 76) h g1 := by
    unfold fX12_search
    refine lp (fun N i (g1 : Hp) => fX12_search_3 N 62 g lo hi i g1) (fun i g1 => ∃ F, g1.2 76 = some (arr 0 12 F) ∧ (∀ t, t < i → F t = 0) ∧ RI g1 s hist x flt ∧ Fr (fun k => k = 76) h g1) (sn s) (fun r => ∃ g1 F, r = fX12_search_26 62 g lo hi g1 ∧ g1.2 76 = some (arr 0 12 F) ∧ (∀ t, t < sn s → F t = 0) ∧ RI g1 s hist x flt ∧ Fr (fun k => k = 76) h g1) ?_ ?_ FU 0 h (Nat.zero_le _) (FU_lt (by omega)) ⟨r1, s1, fun j hj => by omega, R, Fr.rf⟩
    · intro N i g1 hi ⟨F, a1, a2, a3, a5⟩
      obtain ⟨pa, fp, sm, o⟩ := a3.obj
      rw [fX12_search_3, a3.nb, if_neg (by show ¬ (sn s : Int) ≤ i; omega)]
      simp only []
      rw [gR 20 o rfl, ob, ast_of i a1 rfl (by omega), ob, c32_n (by omega) (by omega), ob]
      refine ⟨_, ⟨_, hput_eq, fun j hj => ?_, a3.pu (by omega) _, a5.put rfl⟩, rfl⟩
      rw [ups_at]
      by_cases z : j = i
      · rw [if_pos z]
      · rw [if_neg z]; exact a2 j (by omega)
    · intro N g1 ⟨F, a1, a2, a3, a5⟩
      rw [fX12_search_3, a3.nb, if_pos (by show (sn s : Int) ≤ sn s; omega)]
      exact ⟨g1, F, rfl, a1, a2, a3, a5⟩
  obtain ⟨g1, F, e1, m1, q1, R1, Fr1⟩ := L1
  have hr : RGS (sn s) F := (RGS_0 (sn s)).congr (fun i hi => (q1 i hi).symm)
  have hfb : ∀ i, i < sn s → 0 ≤ F i ∧ F i ≤ 12 := fun i hi => by rw [q1 i hi]; omega
  have hv := val_bd hfb
  have hp : (13 : Int) ^ (sn s) ≤ 13 ^ 9 := by
    have : sn s = 1 ∨ sn s = 2 ∨ sn s = 3 ∨ sn s = 4 ∨ sn s = 5 ∨ sn s = 6 ∨ sn s = 7 ∨ sn s = 8 ∨ sn s = 9 := by omega
    rcases this with z | z | z | z | z | z | z | z | z <;> rw [z] <;> decide
  have hp9 : (13 : Int) ^ 9 = 10604499373 := by decide
  have FUb := FU_ge
  obtain ⟨h2, L, b, e2, m2, B2, R2, Fr2⟩ := r_search34 G (lo := lo) (hi := hi) hg eU 10604499373 FU F (-1) r2 g1 R1 m1 ((Fr1.2 77 (by omega)).trans s2) ((Fr1.2 79 (by omega)).trans u) hr (Or.inl ⟨rfl, fun y hy z => by
    obtain ⟨i, hi, a, b⟩ := z
    rw [q1 i hi] at a
    have := (hy.1 i hi).1; omega⟩) (by omega) (by omega)
  refine ⟨h2, L, b, ?_, m2, B2, R2, (Fr1.mono (fun k hk => Or.inl hk)).tr Fr2⟩
  rw [e1, fX12_search_26, e2]
end
/-- there is a name with k heaps -/
theorem Qn_ex {n k : Nat} (hk1 : 1 ≤ k) (hk : k ≤ n) : RGS n (fun i => ((min i (k - 1) : Nat) : Int)) ∧ mx (fun i => ((min i (k - 1) : Nat) : Int)) n = k := by
  have e : ∀ m : Nat, mx (fun i => ((min i (k - 1) : Nat) : Int)) m = ((min m k : Nat) : Int) := by
    intro m
    induction m with
    | zero => simp [mx]
    | succ m ih => simp only [mx]; rw [ih]; omega
  refine ⟨fun i hi => ⟨by show (0 : Int) ≤ ((min i (k - 1) : Nat) : Int); omega, ?_⟩, ?_⟩
  · rw [e i]; show ((min i (k - 1) : Nat) : Int) ≤ _; omega
  · rw [e n]; omega
theorem both_best {h : Hp} (B : Both h) (a b : Int) : ∃ r h1 h2, fX11_best 1 a b h = some (r, h1) ∧ fX12_best 62 a b h1 = some (r, h2) ∧ Both h2 := by
  obtain ⟨s, hist, x, flt, G, C, R⟩ := B
  have hn := G.1.2.1
  have hn1 := G.1.1
  have ref : ∀ z : Int, ∃ h2 h3, ((cob h 10 1).bind fun _ => (fX11_refuse 1 z h).bind fun p2 => some (p2.1, p2.2)) = some (-1, hput h 1 (BO z)) ∧ putV (hput h 1 (BO z)) 11 62 19 (vi 0) = some h2 ∧ RI h2 s hist x 0 ∧ ((cob h2 11 62).bind fun _ => (fX12_no 62 z h2).bind fun p2 => some (p2.1, p2.2)) = some (-1, h3) ∧ Both h3 := by
    intro z
    obtain ⟨h2, h3, e2, R2, e3, B3⟩ := refuse2 G C R z
    exact ⟨h2, h3, by rw [co C.1, ob, c_refuse C z, ob], e2, R2, by rw [R2.cb, ob, e3, ob], B3⟩
  unfold fX11_best fX12_best
  simp only [fX11_best_22, fX12_best_24]
  rw [c_isGoal, ob]
  by_cases e : 0 ≤ a ∧ a ≤ 3
  · by_cases b1 : b < 0
    · obtain ⟨h2, h3, r1, r2, R2, r3, r4⟩ := ref 1
      refine ⟨-1, hput h 1 (BO 1), h3, ?_, ?_, r4⟩
      · rw [if_pos e, if_neg one0, if_pos b1]; exact r1
      · rw [r2, ob, r_isGoal, ob, if_pos e, if_neg one0, if_pos b1]; exact r3
    by_cases b2 : b ≤ sn s
    · by_cases n9 : sn s ≤ 9
      · obtain ⟨k, rfl⟩ := Int.eq_ofNat_of_zero_le (show 0 ≤ b by omega)
        -- the bounds
        obtain ⟨lo, hi, hlo, hhi, hb0, hb1⟩ : ∃ lo hi : Nat, 1 ≤ lo ∧ lo ≤ hi ∧ (k = 0 → lo = 1 ∧ hi = sn s) ∧ (k ≠ 0 → lo = k ∧ hi = k) := by
          by_cases k0 : k = 0
          · exact ⟨1, sn s, by omega, by omega, fun _ => ⟨rfl, rfl⟩, fun z => absurd k0 z⟩
          · exact ⟨k, k, by omega, by omega, fun z => absurd z k0, fun _ => ⟨rfl, rfl⟩⟩
        have hlon : lo ≤ sn s ∧ hi ≤ sn s := by
          by_cases k0 : k = 0
          · have := hb0 k0; omega
          · have := hb1 k0; omega
        have hq : ∃ y, Qn (sn s) lo hi y := by
          obtain ⟨q1, q2⟩ := Qn_ex (n := sn s) (k := lo) hlo hlon.1
          exact ⟨_, q1, by rw [q2]; omega, by rw [q2]; omega⟩
        obtain ⟨h1, e1, C1, F1⟩ := c_change C hn
        obtain ⟨h2, L, bb, e2, C2, B2, hr2, F2⟩ := c_run C1 G.1 (g := a) (lo := lo) (hi := hi) (fun _ => n9) (by omega) (by omega) (by omega) (by omega) hq
        have F3 : FC h h2 := F1.tr F2
        obtain ⟨h3, h4, e3, R3, F4, e4, R4, F5⟩ := change2 G R F3
        obtain ⟨h5, U, e5, u5, q5, R5, Fr5⟩ := r_useWays R4
        obtain ⟨h6, L', b', e6, m6, B6, R6, Fr6⟩ := r_search R5 G.1 n9 (g := a) (lo := lo) (hi := hi) e u5 q5
        obtain ⟨eL, eb, -⟩ := B2.uq hq B6
        obtain ⟨h7, e7, R7, Fr7⟩ := r_become R6 hn (hist12 G) (Or.inr rfl) m6 (fun i hi => (eb i hi).symm)
        obtain ⟨pa6, fp6, sm6, o6⟩ := R6.obj
        obtain ⟨⟨c, g', a', b0, r1, r2, r3, y1, -⟩, -⟩ := C1.2.2.2.2.2.2.2.1
        refine ⟨L, h2, h7, ?_, ?_, bo ⟨setf_good G.1 hr2, take20_good G.1 G.2.1, G.2.2⟩ C2 (F5.tr ((FM.of Fr5 (fun k hk => by omega)).tr ((FM.of Fr6 (fun k hk => by omega)).tr (FM.of Fr7 (fun k hk => by omega))))) R7⟩
        · have fin : ∀ u v : Int, u = lo → v = hi → fX11_best_77 1 a u v h1 = some (L, h2) := by
            intro u v hu hv
            subst hu; subst hv
            rw [fX11_best_77, gR 6 C1.1 rfl, ob, gR 0 C1.1 rfl, ob, co y1, ob, e2, ob]
          rw [if_pos e, if_neg one0, if_neg b1]
          show ((getR h 10 1 0).bind _) = _
          rw [gR 0 C.1 rfl, ob, gI 0 C.now rfl, ob, if_pos b2]
          show ((some 2).bind _) = _
          rw [ob, gI 0 C.now rfl, ob, if_pos (by omega)]
          show ((cob h 10 1).bind _) = _
          rw [co C.1, ob, C.cr1, ob, e1, ob]
          by_cases k0 : k = 0
          · rw [if_pos (by omega), fX11_best_61, if_pos (by omega), gR 0 C1.1 rfl, ob, gI 0 C1.now rfl, ob]
            exact fin _ _ (by have := hb0 k0; omega) (by have := hb0 k0; omega)
          · rw [if_neg (by omega), fX11_best_61, if_neg (by omega)]
            exact fin _ _ (by have := hb1 k0; omega) (by have := hb1 k0; omega)
        · have fin : ∀ u v : Int, u = hi → v = lo → fX12_best_78 62 u v a 62 h5 = some (L, h7) := by
            intro u v hu hv
            subst hu; subst hv
            rw [fX12_best_78, R5.cb, ob, e6, ob, gR 21 o6 rfl, ob, R6.cb, ob, e7, ob, eL]
          rw [e3, ob, r_isGoal, ob, if_pos e, if_neg one0, if_neg b1]
          show ((cob h3 11 62).bind fun _ => (fX12_n 62 h3).bind _) = _
          rw [R3.nb, if_pos (by show ((k : Nat) : Int) ≤ sn s; omega)]
          show ((cob h3 11 62).bind fun _ => (fX12_n 62 h3).bind _) = _
          rw [R3.nb, if_pos (by show (sn s : Int) ≤ 9; omega)]
          show ((cob h3 11 62).bind _) = _
          rw [R3.cb, ob, e4, ob, R4.cb, ob, e5, ob]
          by_cases k0 : k = 0
          · rw [if_pos (by omega), fX12_best_66, if_pos (by omega), R5.nb]
            exact fin _ _ (by show (sn s : Int) = hi; have := hb0 k0; omega) (by have := hb0 k0; omega)
          · rw [if_neg (by omega), fX12_best_66, if_neg (by omega)]
            exact fin _ _ (by have := hb1 k0; omega) (by have := hb1 k0; omega)
      · obtain ⟨h2, h3, r1, r2, R2, r3, r4⟩ := ref 3
        refine ⟨-1, hput h 1 (BO 3), h3, ?_, ?_, r4⟩
        · rw [if_pos e, if_neg one0, if_neg b1]
          show ((getR h 10 1 0).bind _) = _
          rw [gR 0 C.1 rfl, ob, gI 0 C.now rfl, ob, if_pos b2]
          show ((some 2).bind _) = _
          rw [ob, gI 0 C.now rfl, ob, if_neg (by omega)]
          exact r1
        · rw [r2, ob, r_isGoal, ob, if_pos e, if_neg one0, if_neg b1]
          show ((cob h2 11 62).bind fun _ => (fX12_n 62 h2).bind _) = _
          rw [R2.nb, if_pos (by show b ≤ sn s; omega)]
          show ((cob h2 11 62).bind fun _ => (fX12_n 62 h2).bind _) = _
          rw [R2.nb, if_neg (by show ¬ (sn s : Int) ≤ 9; omega)]
          exact r3
    · obtain ⟨h2, h3, r1, r2, R2, r3, r4⟩ := ref 1
      refine ⟨-1, hput h 1 (BO 1), h3, ?_, ?_, r4⟩
      · rw [if_pos e, if_neg one0, if_neg b1]
        show ((getR h 10 1 0).bind _) = _
        rw [gR 0 C.1 rfl, ob, gI 0 C.now rfl, ob, if_neg b2]
        exact r1
      · rw [r2, ob, r_isGoal, ob, if_pos e, if_neg one0, if_neg b1]
        show ((cob h2 11 62).bind fun _ => (fX12_n 62 h2).bind _) = _
        rw [R2.nb, if_neg (by show ¬ b ≤ (sn s : Int); omega)]
        exact r3
  · obtain ⟨h2, h3, r1, r2, R2, r3, r4⟩ := ref 1
    refine ⟨-1, hput h 1 (BO 1), h3, ?_, ?_, r4⟩
    · rw [if_neg e, if_pos rfl]; exact r1
    · rw [r2, ob, r_isGoal, ob, if_neg e, if_pos rfl]; exact r3
