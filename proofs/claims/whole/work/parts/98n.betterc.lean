/-! better, the class's side: the best move, and all of them -/
theorem mc_congrW {n : Nat} {W W' X X' K K' f f' : Nat → Int} {g : Int} (hn : n ≤ 12) (eW : Eqn 144 W W') (eX : Eqn 144 X X') (eK : Eqn 144 K K') (e : Eqn n f f') (t v : Nat) : mc n W X K g f t v = mc n W' X' K' g f' t v := by
  unfold mc
  rw [mx_congr e, grd_congr hn eX eK]
  exact cfold_congr (fun u _ => hco_congr hn eW eX eK (fun i hi => by unfold pv; rw [ups_eqn e t v i hi]) g)
theorem BS_congrW {n : Nat} {W W' X X' K K' f f' : Nat → Int} {g : Int} (hn : n ≤ 12) (eW : Eqn 144 W W') (eX : Eqn 144 X X') (eK : Eqn 144 K K') (e : Eqn n f f') : BS n W X K g f = BS n W' X' K' g f' := by
  unfold BS
  rw [mx_congr e, cst_congr hn eW eX eK e g]
  exact bs2_congr n (fun t ht v _ => ⟨mc_congrW hn eW eX eK e t v, okm_congr e ht v⟩)
theorem BS_sp {n : Nat} {W X K f : Nat → Int} {g : Int} : (BS n W X K g f = (cst n W X K g f, -1, -1) ∨ ∃ t v : Nat, t < n ∧ (v : Int) ≤ mx f n ∧ okm n f t v = true ∧ BS n W X K g f = (mc n W X K g f t v, (t : Int), (v : Int)) ∧ mc n W X K g f t v < cst n W X K g f) ∧ ∀ t v : Nat, t < n → (v : Int) ≤ mx f n → okm n f t v = true → (BS n W X K g f).1 ≤ mc n W X K g f t v := by
  have hm0 := mx_nonneg f n
  obtain ⟨h1, h2, h3⟩ := bs2_BI (C := mc n W X K g f) (ok := okm n f) (c0 := cst n W X K g f) (m := (mx f n).toNat + 1) n
  refine ⟨?_, fun t v ht hv ho => h3 t v ⟨ht, by omega⟩ ho⟩
  rcases h1 with z | ⟨t, v, z1, z2, z3, z4⟩
  · exact Or.inl z
  · exact Or.inr ⟨t, v, z1.1, by omega, z2, z3, z4⟩
theorem okm_own {n : Nat} {f : Nat → Int} {t v : Nat} (h : (v : Int) = f t) : okm n f t v = false := by
  unfold okm
  exact decide_eq_false (fun z => z.1 h)
theorem okm_yes {n : Nat} {f : Nat → Int} {t v : Nat} (h : (v : Int) ≠ f t) (h2 : (v : Int) ≠ mx f n ∨ ¬ (∀ b, b < n → b ≠ t → f b ≠ f t)) : okm n f t v = true := by
  unfold okm
  exact decide_eq_true ⟨h, fun z => h2.elim (fun y => y z.1) (fun y => y z.2)⟩
theorem okm_alone {n : Nat} {f : Nat → Int} {t v : Nat} (h : (v : Int) = mx f n) (h2 : ∀ b, b < n → b ≠ t → f b ≠ f t) : okm n f t v = false := by
  unfold okm
  exact decide_eq_false (fun z => z.2 ⟨h, h2⟩)
theorem bs1_no {C : Nat → Nat → Int} {ok : Nat → Nat → Bool} {t v : Nat} {st : Int × Int × Int} (h : ok t v = false) : bs1 C ok t (v + 1) st = bs1 C ok t v st := by
  simp only [bs1]
  rw [if_neg (fun z => by rw [h] at z; exact absurd z.1 (by decide))]
theorem msk_one {n t : Nat} {f : Nat → Int} (ht : t < n) : msk (fun i => decide (f i = f t)) n = 2 ^ t ↔ ∀ b, b < n → b ≠ t → f b ≠ f t := by
  constructor
  · intro h b hb hbt hz
    have h1 := msk_bit (fun i => decide (f i = f t)) n b
    rw [h, Nat.testBit_two_pow] at h1
    simp [hb, hz] at h1
    exact hbt h1.symm
  · intro h
    refine Nat.eq_of_testBit_eq (fun j => ?_)
    rw [msk_bit, Nat.testBit_two_pow]
    by_cases z : j = t
    · subst z; simp [ht]
    · have z' : ¬ t = j := fun y => z y.symm
      by_cases y : j < n
      · have := h j y z
        simp [this, z']
      · simp [y, z']
section
variable {h : Hp} {n : Nat} {P W X K f : Nat → Int}
theorem c_scan (S : isSc h 2 n P W X K (mx f n) f) (hn1 : 1 ≤ n) (hn : n ≤ 12) (hW : Wok W) (hX : Xok X K) (hr : RGS n f) {g : Int} (hg : 0 ≤ g ∧ g ≤ 3) (D : WG n W X K g f h) : fX4_makeBestMove_28 FU 41 2 g 7 (cst n W X K g f) (-1) (-1) 0 h = fX4_makeBestMove_151 7 (BS n W X K g f).2.1 (BS n W X K g f).2.2 h := by
  have hm := hr.mx_le; have hm0 := mx_nonneg f n
  obtain ⟨kk, hkk⟩ : ∃ kk : Nat, mx f n = (kk : Int) := ⟨(mx f n).toNat, by omega⟩
  have P2 := S.2.2.2.2.2
  obtain ⟨M, Q, a1, a2, a3, a4⟩ := id D
  have eB : BS n W X K g f = bs2 (mc n W X K g f) (okm n f) (kk + 1) (cst n W X K g f, -1, -1) n := by unfold BS; rw [hkk, Int.toNat_natCast]
  rw [eB]
  refine lp (fun N t (z : Int × Int × Int) => fX4_makeBestMove_28 N 41 2 g 7 z.1 z.2.1 z.2.2 t h) (fun t z => z = bs2 (mc n W X K g f) (okm n f) (kk + 1) (cst n W X K g f, -1, -1) t) n (fun r => r = fX4_makeBestMove_151 7 (bs2 (mc n W X K g f) (okm n f) (kk + 1) (cst n W X K g f, -1, -1) n).2.1 (bs2 (mc n W X K g f) (okm n f) (kk + 1) (cst n W X K g f, -1, -1) n).2.2 h) ?_ ?_ FU 0 (cst n W X K g f, -1, -1) (Nat.zero_le _) (FU_lt (by omega)) rfl
  · intro N t z ht hz
    have hft := hr t ht
    have hft2 := lt_mx (g := f) ht
    obtain ⟨a, ha⟩ : ∃ a : Nat, f t = (a : Int) := ⟨(f t).toNat, by omega⟩
    have hMa : M a = ((msk (fun i => decide (f i = f t)) n : Nat) : Int) := by rw [(a4 a (by omega)).1, ha]
    -- the inner loop
    have inner : ∀ last : Nat, (∀ v : Nat, v ≤ last → (v : Int) ≤ mx f n ∧ ((v : Int) ≠ f t → okm n f t v = true)) → bs1 (mc n W X K g f) (okm n f) t (last + 1) z = bs1 (mc n W X K g f) (okm n f) t (kk + 1) z → fX4_makeBestMove_85 (fX4_makeBestMove_28 N) 41 2 g 7 z.1 z.2.1 z.2.2 t a last h = fX4_makeBestMove_28 N 41 2 g 7 (bs1 (mc n W X K g f) (okm n f) t (kk + 1) z).1 (bs1 (mc n W X K g f) (okm n f) t (kk + 1) z).2.1 (bs1 (mc n W X K g f) (okm n f) t (kk + 1) z).2.2 ((t + 1 : Nat) : Int) h := by
      intro last hl he
      rw [← he, fX4_makeBestMove_85]
      have hlast : (last : Int) ≤ 12 := by have := (hl last (Nat.le_refl _)).1; omega
      refine lp (fun N' v (y : Int × Int × Int) => fX4_makeBestMove_90 (fX4_makeBestMove_28 N) N' 41 2 g 7 y.1 y.2.1 y.2.2 t a last v h) (fun v y => y = bs1 (mc n W X K g f) (okm n f) t v z) (last + 1) (fun r => r = fX4_makeBestMove_28 N 41 2 g 7 (bs1 (mc n W X K g f) (okm n f) t (last + 1) z).1 (bs1 (mc n W X K g f) (okm n f) t (last + 1) z).2.1 (bs1 (mc n W X K g f) (okm n f) t (last + 1) z).2.2 ((t + 1 : Nat) : Int) h) ?_ ?_ FU 0 z (Nat.zero_le _) (FU_lt (by omega)) rfl
      · intro N' v y hv hy
        have hlv := hl v (by omega)
        show ∃ s' : Int × Int × Int, _ ∧ fX4_makeBestMove_90 (fX4_makeBestMove_28 N) (N' + 1) 41 2 g 7 y.1 y.2.1 y.2.2 t a last v h = fX4_makeBestMove_90 (fX4_makeBestMove_28 N) N' 41 2 g 7 s'.1 s'.2.1 s'.2.2 t a last ((v + 1 : Nat) : Int) h
        rw [fX4_makeBestMove_90, if_neg (by omega)]
        by_cases w : v = a
        · rw [if_pos (by omega), fX4_makeBestMove_139, c32_n (by omega) (by omega), ob]
          exact ⟨y, by rw [bs1_no (okm_own (by omega))]; exact hy, rfl⟩
        · have ok := hlv.2 (by omega)
          rw [if_neg (by omega), co a1, ob, costAfter_ok S hn1 hn hW hX hr hg D ht hlv.1 (by omega), ob]
          show ∃ s' : Int × Int × Int, _ ∧ (if 0 ≤ lCmp (mc n W X K g f t v) y.1 then fX4_makeBestMove_139 (fX4_makeBestMove_28 N) (fX4_makeBestMove_90 (fX4_makeBestMove_28 N) N') 41 2 g 7 y.1 y.2.1 y.2.2 t a last v h else fX4_makeBestMove_139 (fX4_makeBestMove_28 N) (fX4_makeBestMove_90 (fX4_makeBestMove_28 N) N') 41 2 g 7 (mc n W X K g f t v) t v t a last v h) = _
          by_cases q : y.1 ≤ mc n W X K g f t v
          · rw [if_pos ((lCmp_ge _ _).mpr q), fX4_makeBestMove_139, c32_n (by omega) (by omega), ob]
            refine ⟨y, ?_, rfl⟩
            simp only [bs1]
            rw [← hy, if_neg (fun u => by omega)]
          · rw [if_neg (fun u => q ((lCmp_ge _ _).mp u)), fX4_makeBestMove_139, c32_n (by omega) (by omega), ob]
            refine ⟨(mc n W X K g f t v, (t : Int), (v : Int)), ?_, rfl⟩
            simp only [bs1]
            rw [← hy, if_pos ⟨ok, by omega⟩]
      · intro N' y hy
        show fX4_makeBestMove_90 (fX4_makeBestMove_28 N) (N' + 1) 41 2 g 7 y.1 y.2.1 y.2.2 t a last ((last + 1 : Nat) : Int) h = _
        rw [fX4_makeBestMove_90, if_pos (by omega), fX4_makeBestMove_145, c32_n (by omega) (by omega), ob, hy]; rfl
    refine ⟨bs1 (mc n W X K g f) (okm n f) t (kk + 1) z, by rw [hz]; rfl, ?_⟩
    show fX4_makeBestMove_28 (N + 1) 41 2 g 7 z.1 z.2.1 z.2.2 t h = _
    rw [fX4_makeBestMove_28, gI 0 S.1 rfl, ob, if_neg (by omega), gR 2 P2.1 rfl, ob, ald_of t P2.2.1 rfl (by omega), ob, gR 0 a1 rfl, ob, ha, ald_of a a2 rfl (by omega), ob, hMa, bShl_1 t (by omega)]
    by_cases al : msk (fun i => decide (f i = f t)) n = 2 ^ t
    · rw [if_pos (by rw [al]), fX4_makeBestMove_65, if_neg (by decide), gI 1 P2.1 rfl, ob, c32_n (by omega) (by omega), ob]
      have al2 := (msk_one ht).mp al
      obtain ⟨k1, hk1⟩ : ∃ k1, kk = k1 + 1 := ⟨kk - 1, by omega⟩
      rw [show mx f n - 1 = (k1 : Int) by omega]
      refine inner k1 (fun v hv => ⟨by omega, fun w => okm_yes w (Or.inl (by omega))⟩) ?_
      rw [← hk1, bs1_no (okm_alone (by omega) al2)]
    · rw [if_neg (fun u => al (by omega)), fX4_makeBestMove_65, if_pos rfl, gI 1 P2.1 rfl, ob, hkk]
      exact inner kk (fun v hv => ⟨by omega, fun w => okm_yes w (Or.inr (fun u => al ((msk_one ht).mpr u)))⟩) rfl
  · intro N z hz
    show fX4_makeBestMove_28 (N + 1) 41 2 g 7 z.1 z.2.1 z.2.2 n h = _
    rw [fX4_makeBestMove_28, gI 0 S.1 rfl, ob, if_pos (by omega), hz]
end
theorem CScr.mov {h h' : Hp} (C : CScr h) (hs : ∀ k, (23 ≤ k ∧ k ≤ 40) ∨ (44 ≤ k ∧ k ≤ 46) → h'.2 k = h.2 k) (N : ∃ g r1 r2, h'.2 41 = some (obj 3 [vr 42, vr 43, vl g]) ∧ h'.2 42 = some (arr 0 12 r1) ∧ h'.2 43 = some (arr 1 12 r2)) : CScr h' := by
  obtain ⟨⟨c, g, a, b, r1, r2, r3, z1, z2, z3, z4⟩, ⟨t1, t2, n, k, f, y1, y2, y3, y4⟩, ⟨n', m, P, W, X, K, k', f', w1, w2⟩, -, ⟨p1, p2, q1, q2, q3⟩⟩ := C
  refine ⟨⟨c, g, a, b, r1, r2, r3, (hs _ (by omega)).trans z1, (hs _ (by omega)).trans z2, (hs _ (by omega)).trans z3, (hs _ (by omega)).trans z4⟩, ⟨t1, t2, n, k, f, (hs _ (by omega)).trans y1, (hs _ (by omega)).trans y2, (hs _ (by omega)).trans y3, y4.ag (fun l h1 h2 => hs l (by omega))⟩, ⟨n', m, P, W, X, K, k', f', w1.ag (fun l hl => hs l (by obtain ⟨e1, e2⟩ := hl; omega)), w2⟩, N, ⟨p1, p2, (hs _ (by omega)).trans q1, (hs _ (by omega)).trans q2, (hs _ (by omega)).trans q3⟩⟩
section
variable {h : Hp} {s : Scn} {hist : List Scn} {x : Aux} {flt : Int}
theorem c_mbm (C : CI h s hist x flt) (G : GSc s) {g : Int} (hg : 0 ≤ g ∧ g ≤ 3) : ∃ h', FC h h' ∧
    (((BS (sn s) (sW s) (sX s) (sK s) g (sf s)).2.1 = -1 ∧ fX4_makeBestMove 41 2 g h = some (0, h') ∧ ∃ b, Eqn (sn s) (sf s) b ∧ CI h' (setf s b) hist x flt) ∨
    (∃ (t v : Nat) (g1 : Nat → Int), (BS (sn s) (sW s) (sX s) (sK s) g (sf s)).2 = ((t : Int), (v : Int)) ∧ RN (sn s) (ups (sf s) t v) g1 ∧ fX4_makeBestMove 41 2 g h = some (1, h') ∧ CI h' (setf s g1) hist x flt)) := by
  have hn1 := G.1
  have hn := G.2.1
  obtain ⟨P, W, X, K, f, S0, z1, z2, z3, z4, z5⟩ := C.2.1
  have S : isSc h 2 (sn s) P W X K (mx f (sn s)) f := by rw [mx_congr z5]; exact S0
  have hW := G.wok.eq z2
  have hX := G.xok.eq z3 z4
  have hr : RGS (sn s) f := G.rgs.congr (fun i hi => (z5 i hi).symm)
  have hml := hr.mx_le
  obtain ⟨g0, r1, r2, o, m1, m2⟩ := C.2.2.2.2.2.2.2.1.2.2.2.1
  obtain ⟨h1, e1, D, F1⟩ := weigh_ok S hn1 hn hW hX hr o m1 m2 g
  have S1 : isSc h1 2 (sn s) P W X K (mx f (sn s)) f := isSq.fr F1 S (fun j hj => by obtain ⟨y1, y2⟩ := hj; omega)
  have P1 := S1.2.2.2.2.2
  have sc := c_scan S1 hn1 hn hW hX hr hg D
  have oc : fX0_ofParting 2 g 7 h1 = some (cst (sn s) W X K g f, h1) := ofParting_ok S1 hn1 hn hW hX g P1 hr
  have start : fX4_makeBestMove 41 2 g h = fX4_makeBestMove_151 7 (BS (sn s) W X K g f).2.1 (BS (sn s) W X K g f).2.2 h1 := by
    unfold fX4_makeBestMove
    rw [co o, ob, e1, ob, gR 5 S1.1 rfl, ob]
    show ((fX0_ofParting 2 g 7 h1).bind fun _ => _) = _
    rw [oc, ob]
    exact sc
  have eB := BS_congrW (g := g) hn z2 z3 z4 z5
  obtain ⟨M, Q, d1, d2, d3, -⟩ := D
  have N1 : CScr h1 := C.2.2.2.2.2.2.2.1.mov (fun k hk => F1.2 k (by omega)) ⟨_, M, Q, d1, d2, d3⟩
  rw [start, eB, fX4_makeBestMove_151]
  rcases (BS_sp (n := sn s) (W := sW s) (X := sX s) (K := sK s) (f := sf s) (g := g)).1 with y | ⟨t, v, y1, y2, y3, y4, y5⟩
  · refine ⟨h1, FC.of F1 (fun k hk => by omega), Or.inl ⟨by rw [y], by rw [y]; rfl, f, fun i hi => (z5 i hi).symm, ?_⟩⟩
    exact C.any (F1.mono (fun k hk => by omega)) S1 z1 z2 z3 z4 N1
  · have mm := mx_congr z5
    rw [y4]
    show ∃ h', _ ∧ ((_ ∧ (if (t : Int) = -1 then some (0, h1) else (getR h1 5 7 2).bind fun v2 => (ast h1 0 v2 t v).bind fun h3 => (cob h3 5 7).bind fun _ => (fX6_renumber 7 h3).bind fun h5 => some (1, h5)) = some (0, h') ∧ _) ∨ ∃ (t' v' : Nat) (g1 : Nat → Int), _ ∧ _ ∧ (if (t : Int) = -1 then some (0, h1) else (getR h1 5 7 2).bind fun v2 => (ast h1 0 v2 t v).bind fun h3 => (cob h3 5 7).bind fun _ => (fX6_renumber 7 h3).bind fun h5 => some (1, h5)) = some (1, h') ∧ _)
    have Q1 : isPt (hput h1 8 (arr 0 12 (ups f t v))) 7 (sn s) (mx f (sn s)) (ups f t v) := by
      obtain ⟨p0, p1, gg, p2⟩ := P1
      exact ⟨(hput_ne (by omega)).trans p0, hput_eq, gg, (hput_ne (by omega)).trans p2⟩
    obtain ⟨h2, g1, e2, P2, N2, F2⟩ := renumber_ok hn Q1 (fun j hj => by
      rw [ups_at]
      by_cases w : j = t
      · rw [if_pos w]; omega
      · rw [if_neg w]; have := hr j hj; have := hr.lt hj; omega)
    have FA : Fr (fun k => 7 ≤ k ∧ k ≤ 9) h1 h2 := (Fr.rf.put (q := 8) (by omega)).tr (F2.mono (fun k hk => by rcases hk with w | w | w <;> omega))
    have FB : Fr (fun k => (7 ≤ k ∧ k ≤ 9) ∨ (23 ≤ k ∧ k ≤ 46)) h h2 := (F1.mono (fun k hk => by omega)).tr (FA.mono (fun k hk => by omega))
    have S2 : isSc h2 2 (sn s) P W X K (mx g1 (sn s)) g1 := by
      obtain ⟨s0, s1, s2, s3, s4, -⟩ := S1
      exact ⟨(FA.2 _ (by omega)).trans s0, (FA.2 _ (by omega)).trans s1, (FA.2 _ (by omega)).trans s2, (FA.2 _ (by omega)).trans s3, (FA.2 _ (by omega)).trans s4, P2⟩
    have N2' : CScr h2 := N1.ag (fun k hk => FA.2 k (by omega))
    have eu := ups_eqn z5 t (v : Int)
    refine ⟨h2, FC.of FB (fun k hk => by omega), Or.inr ⟨t, v, g1, rfl, ⟨N2.1, fun i j hi hj => by rw [N2.2 i j hi hj, eu i hi, eu j hj]⟩, ?_, C.any FB S2 z1 z2 z3 z4 N2'⟩⟩
    rw [if_neg (by omega), gR 2 P1.1 rfl, ob, ast_of t P1.2.1 rfl (by omega), ob]
    show ((cob (hput h1 8 (arr 0 12 (ups f t v))) 5 7).bind fun _ => (fX6_renumber 7 (hput h1 8 (arr 0 12 (ups f t v)))).bind fun h5 => some (1, h5)) = _
    rw [co Q1.1, ob, e2, ob]
/-- how the cost falls by the best move -/
theorem fall_ok (G : GSc s) {g : Int} (hg : 0 ≤ g ∧ g ≤ 3) {t v : Nat} {g1 : Nat → Int} (hb : (BS (sn s) (sW s) (sX s) (sK s) g (sf s)).2 = ((t : Int), (v : Int))) (hN : RN (sn s) (ups (sf s) t v) g1) : cst (sn s) (sW s) (sX s) (sK s) g g1 < cst (sn s) (sW s) (sX s) (sK s) g (sf s) ∧ 0 ≤ cst (sn s) (sW s) (sX s) (sK s) g g1 ∧ (g = 0 → 132 * cst (sn s) (sW s) (sX s) (sK s) g g1 ≤ 131 * cst (sn s) (sW s) (sX s) (sK s) g (sf s)) := by
  have hn := G.2.1
  obtain ⟨b1, b2⟩ := BS_sp (n := sn s) (W := sW s) (X := sX s) (K := sK s) (f := sf s) (g := g)
  rcases b1 with y | ⟨t', v', y1, y2, y3, y4, y5⟩
  · rw [y] at hb
    have : (-1 : Int) = t := congrArg Prod.fst hb
    omega
  · rw [y4] at hb
    have et : (t' : Int) = t := congrArg Prod.fst hb
    have ev : (v' : Int) = v := congrArg Prod.snd hb
    have et : t' = t := by omega
    have ev : v' = v := by omega
    subst et; subst ev
    have ec : cst (sn s) (sW s) (sX s) (sK s) g g1 = mc (sn s) (sW s) (sX s) (sK s) g (sf s) t' v' := mc_cst hn G.rgs y2 hN
    have h0 := G.nn hg hN.1
    refine ⟨by omega, h0, fun z => ?_⟩
    subst z
    obtain ⟨t2, v2, w1, w2, w3, w4⟩ := drop0 hn G.wok (G.sym (fun _ _ => rfl)) (fun a ha => G.2.2.2.2.2.1 a (by omega)) G.rgs (show 0 < cst (sn s) (sW s) (sX s) (sK s) 0 (sf s) by omega)
    have := b2 t2 v2 w1 w2 w3
    rw [y4] at this
    have : mc (sn s) (sW s) (sX s) (sK s) 0 (sf s) t' v' ≤ mc (sn s) (sW s) (sX s) (sK s) 0 (sf s) t2 v2 := this
    omega
end
theorem c_moves {hist : List Scn} {x : Aux} {flt : Int} {g : Int} (hg : 0 ≤ g ∧ g ≤ 3) : ∀ (k N : Nat) (made : Int) (h : Hp) (s : Scn), Pot g (cst (sn s) (sW s) (sX s) (sK s) g (sf s)) k → k < N → 0 ≤ made → made + k < 1000000 → CI h s hist x flt → GSc s → ∃ (m : Nat) (f' : Nat → Int) (h' : Hp), fX4_run_2 N 41 2 g made h = some (made + m, h') ∧ Pth (sn s) (sW s) (sX s) (sK s) g m (sf s) f' ∧ RGS (sn s) f' ∧ CI h' (setf s f') hist x flt ∧ FC h h' := by
  intro k
  induction k with
  | zero =>
    intro N made h s hp hN hm1 hm2 C G
    obtain ⟨N, rfl⟩ : ∃ k, N = k + 1 := ⟨N - 1, by omega⟩
    obtain ⟨g0, r1, r2, o, -⟩ := C.2.2.2.2.2.2.2.1.2.2.2.1
    obtain ⟨h', F, y⟩ := c_mbm C G hg
    rcases y with ⟨y1, y2, b, y3, y4⟩ | ⟨t, v, g1, y1, y2, -⟩
    · refine ⟨0, b, h', ?_, ⟨y1, y3⟩, G.rgs.congr y3, y4, F⟩
      rw [fX4_run_2, if_neg (by omega), co o, ob, y2, ob]
      show (if (0 : Int) = 0 then fX4_run_23 made h' else _) = _
      rw [if_pos rfl, fX4_run_23]; simp
    · obtain ⟨f1, f2, f3⟩ := fall_ok G hg y1 y2
      obtain ⟨k', hk', -⟩ := hp.step f1 f2 f3
      omega
  | succ k ih =>
    intro N made h s hp hN hm1 hm2 C G
    obtain ⟨N, rfl⟩ : ∃ k, N = k + 1 := ⟨N - 1, by omega⟩
    obtain ⟨g0, r1, r2, o, -⟩ := C.2.2.2.2.2.2.2.1.2.2.2.1
    obtain ⟨h', F, y⟩ := c_mbm C G hg
    rcases y with ⟨y1, y2, b, y3, y4⟩ | ⟨t, v, g1, y1, y2, y3, y4⟩
    · refine ⟨0, b, h', ?_, ⟨y1, y3⟩, G.rgs.congr y3, y4, F⟩
      rw [fX4_run_2, if_neg (by omega), co o, ob, y2, ob]
      show (if (0 : Int) = 0 then fX4_run_23 made h' else _) = _
      rw [if_pos rfl, fX4_run_23]; simp
    · obtain ⟨f1, f2, f3⟩ := fall_ok G hg y1 y2
      obtain ⟨k', hk', hp'⟩ := hp.step f1 f2 f3
      have : k' = k := by omega
      subst this
      obtain ⟨m, f', h2, e2, p2, q2, C2, F2⟩ := ih N (made + 1) h' (setf s g1) hp' (by omega) (by omega) (by omega) y4 (setf_good G y2.1)
      refine ⟨m + 1, f', h2, ?_, ⟨t, v, g1, y1, y2, p2⟩, q2, C2, F.tr F2⟩
      rw [fX4_run_2, if_neg (by omega), co o, ob, y3, ob]
      show (if (1 : Int) = 0 then _ else ((c32 (made + 1)).bind fun _ => fX4_run_2 N 41 2 g (made + 1) h')) = _
      rw [if_neg (by decide), c32_n (by omega) (by omega), ob, e2]
      congr 2
      omega
