/-! better, the reference's side -/
/-- the row of the best name holds what the best move so far makes -/
def RB (n : Nat) (f : Nat → Int) (h : Hp) (st : Int × Int × Int) : Prop := ∀ t v : Nat, st.2 = ((t : Int), (v : Int)) → ∃ b g1 : Nat → Int, h.2 77 = some (arr 0 12 b) ∧ RN n (ups f t v) g1 ∧ Eqn n b g1
theorem RB.ag {n : Nat} {f : Nat → Int} {h h' : Hp} {st : Int × Int × Int} (r : RB n f h st) (e : h'.2 77 = h.2 77) : RB n f h' st := fun t v hz => by
  obtain ⟨b, g1, y1, y2⟩ := r t v hz
  exact ⟨b, g1, e.trans y1, y2⟩
section
variable {h : Hp} {s : Scn} {hist : List Scn} {x : Aux} {flt : Int}
theorem r_bcp (R : RI h s hist x flt) (hn : sn s ≤ 12) {F : Nat → Int} (e : h.2 76 = some (arr 0 12 F)) (K30 : Nat → Int → Int → Int → Hp → Option (Int × Hp)) (K62 : Nat → Int → Int → Int → Int → Int → Int → Hp → Option (Int × Hp)) (K131 : Nat → Int → Int → Int → Int → Int → Int → Int → Int → Hp → Option (Int × Hp)) (g mv c L k t fl v : Int) : ∃ h' b, fX12_better_216 K30 K62 K131 FU 62 g mv c L k t fl v 0 h = fX12_better_245 K30 K62 K131 62 g mv c L k t fl v h' ∧ h'.2 77 = some (arr 0 12 b) ∧ Eqn (sn s) b F ∧ RI h' s hist x flt ∧ Fr (fun k => k = 77) h h' := by
  obtain ⟨r1, r2, r3, r4, r5, s1, s2, s3, s4, s5⟩ := R.scr
  refine lp (fun N i (z : Hp) => fX12_better_216 K30 K62 K131 N 62 g mv c L k t fl v i z) (fun i z => ∃ b, z.2 77 = some (arr 0 12 b) ∧ Eqn i b F ∧ RI z s hist x flt ∧ Fr (fun k => k = 77) h z) (sn s) (fun r => ∃ h' b, r = fX12_better_245 K30 K62 K131 62 g mv c L k t fl v h' ∧ h'.2 77 = some (arr 0 12 b) ∧ Eqn (sn s) b F ∧ RI h' s hist x flt ∧ Fr (fun k => k = 77) h h') ?_ ?_ FU 0 h (Nat.zero_le _) (FU_lt (by omega)) ⟨r2, s2, fun i hi => by omega, R, Fr.rf⟩
  · intro N i z hi ⟨b, a1, a2, a3, a4⟩
    obtain ⟨pa, fp, sm, o⟩ := a3.obj
    have e' : z.2 76 = some (arr 0 12 F) := (a4.2 76 (by omega)).trans e
    rw [fX12_better_216, a3.nb, if_neg (by show ¬ (sn s : Int) ≤ i; omega)]
    simp only []
    rw [gR 21 o rfl, ob, gR 20 o rfl, ob, ald_of i e' rfl (by omega), ob, ast_of i a1 rfl (by omega), ob, c32_n (by omega) (by omega), ob]
    refine ⟨_, ⟨_, hput_eq, fun j hj => ?_, a3.pu (by omega) _, a4.put rfl⟩, rfl⟩
    rw [ups_at]
    by_cases w : j = i
    · rw [if_pos w, w]
    · rw [if_neg w]; exact a2 j (by omega)
  · intro N z ⟨b, a1, a2, a3, a4⟩
    rw [fX12_better_216, a3.nb, if_pos (by show (sn s : Int) ≤ sn s; omega)]
    exact ⟨z, b, rfl, a1, a2, a3, a4⟩
theorem r_try (R : RI h s hist x flt) (G : GSc s) {g : Int} (hg : 0 ≤ g ∧ g ≤ 3) {U : Nat → Int} (u : h.2 79 = some (arr 0 144 U)) (eU : Eqn 144 U (sW s)) (K30 : Nat → Int → Int → Int → Hp → Option (Int × Hp)) (K62 : Nat → Int → Int → Int → Int → Int → Int → Hp → Option (Int × Hp)) (K131 : Nat → Int → Int → Int → Int → Int → Int → Int → Int → Hp → Option (Int × Hp)) (mv c k fl : Int) {t v : Nat} (ht : t < sn s) (hv : (v : Int) ≤ mx (sf s) (sn s)) {st : Int × Int × Int} (hb : RB (sn s) (sf s) h st) : ∃ h', fX12_better_165 K30 K62 K131 62 g mv c st.1 k t fl v h = fX12_better_245 K30 K62 K131 62 g mv c (if mc (sn s) (sW s) (sX s) (sK s) g (sf s) t v < st.1 then (mc (sn s) (sW s) (sX s) (sK s) g (sf s) t v, (t : Int), (v : Int)) else st).1 k t fl v h' ∧ RB (sn s) (sf s) h' (if mc (sn s) (sW s) (sX s) (sK s) g (sf s) t v < st.1 then (mc (sn s) (sW s) (sX s) (sK s) g (sf s) t v, (t : Int), (v : Int)) else st) ∧ RI h' s hist x flt ∧ Fr (fun k => 76 ≤ k ∧ k ≤ 78) h h' := by
  have hn := G.2.1
  obtain ⟨h2, F, e2, m2, q2, R2, F2⟩ := r_takeNow R hn
  have R3 := R2.pu (q := 76) (by omega) (ups F t v)
  obtain ⟨h4, g1, Fg, e4, m4, q4, N4, R4, F4⟩ := r_number R3 hn hput_eq
  obtain ⟨pa2, fp2, sm2, o2⟩ := R2.obj
  obtain ⟨pa3, fp3, sm3, o3⟩ := R3.obj
  obtain ⟨pa4, fp4, sm4, o4⟩ := R4.obj
  have FA : Fr (fun k => k = 76 ∨ k = 78) h h4 := (F2.mono (fun k hk => by omega)).tr ((Fr.rf.put (q := 76) (Or.inl rfl)).tr F4)
  have u4 : h4.2 79 = some (arr 0 144 U) := (FA.2 79 (by omega)).trans u
  have eu := ups_eqn q2 t (v : Int)
  have N4' : RN (sn s) (ups (sf s) t v) g1 := ⟨N4.1, fun i j hi hj => by rw [N4.2 i j hi hj, eu i hi, eu j hj]⟩
  have hc : fX12_costOf 62 76 g h4 = some (mc (sn s) (sW s) (sX s) (sK s) g (sf s) t v, h4) := by
    rw [r_cost R4 G m4 (by omega) u4 eU (N4.1.congr (fun i hi => (q4 i hi).symm)) hg, cst_congr hn (fun _ _ => rfl) (fun _ _ => rfl) (fun _ _ => rfl) q4 g, mc_cst hn G.rgs hv N4']
  have b4 : RB (sn s) (sf s) h4 st := hb.ag (FA.2 77 (by omega))
  have start : fX12_better_165 K30 K62 K131 62 g mv c st.1 k t fl v h = if lCmp (mc (sn s) (sW s) (sX s) (sK s) g (sf s) t v) st.1 < 0 then fX12_better_216 K30 K62 K131 FU 62 g mv c (mc (sn s) (sW s) (sX s) (sK s) g (sf s) t v) k t fl v 0 h4 else fX12_better_245 K30 K62 K131 62 g mv c st.1 k t fl v h4 := by
    rw [fX12_better_165, R.cb, ob, e2, ob, gR 20 o2 rfl, ob, ast_of t m2 rfl (by omega), ob, gR 20 o3 rfl, ob, R3.cb, ob, e4, ob]
    show ((getR h4 11 62 20).bind fun _ => _) = _
    rw [gR 20 o4 rfl, ob]
    show ((cob h4 11 62).bind fun _ => _) = _
    rw [R4.cb, ob]
    show ((fX12_costOf 62 76 g h4).bind fun _ => _) = _
    rw [hc, ob]
  rw [start]
  by_cases z : mc (sn s) (sW s) (sX s) (sK s) g (sf s) t v < st.1
  · obtain ⟨h5, b, e5, m5, q5, R5, F5⟩ := r_bcp R4 hn m4 K30 K62 K131 g mv c (mc (sn s) (sW s) (sX s) (sK s) g (sf s) t v) k t fl v
    rw [if_pos ((lCmp_lt _ _).mpr z), if_pos z]
    refine ⟨h5, e5, fun t' v' hz => ?_, R5, (FA.mono (fun k hk => by omega)).tr (F5.mono (fun k hk => by omega))⟩
    have et : (t : Int) = t' := congrArg Prod.fst hz
    have ev : (v : Int) = v' := congrArg Prod.snd hz
    have et : t = t' := by omega
    have ev : v = v' := by omega
    subst et; subst ev
    exact ⟨b, g1, m5, N4', fun i hi => (q5 i hi).trans (q4 i hi)⟩
  · rw [if_neg (fun w => z ((lCmp_lt _ _).mp w)), if_neg z]
    exact ⟨h4, rfl, b4, R4, FA.mono (fun k hk => by omega)⟩
theorem r_alone (R : RI h s hist x flt) (hn : sn s ≤ 12) (K30 : Nat → Int → Int → Int → Hp → Option (Int × Hp)) (K62 : Nat → Int → Int → Int → Int → Int → Int → Hp → Option (Int × Hp)) (g mv c L k : Int) {t : Nat} (ht : t < sn s) : ∃ fl : Int, fX12_better_77 K30 K62 FU 62 g mv c L k t 1 0 h = fX12_better_128 K30 K62 62 g mv c L k t fl h ∧ ((fl = 1 ∧ ∀ b, b < sn s → b ≠ t → sf s b ≠ sf s t) ∨ (fl = 0 ∧ ¬ ∀ b, b < sn s → b ≠ t → sf s b ≠ sf s t)) := by
  obtain ⟨N0, m, q⟩ := R.nam
  obtain ⟨pa, fp, sm, o⟩ := R.obj
  have key : ∃ fl : Int, fX12_better_77 K30 K62 FU 62 g mv c L k t 1 ((0 : Nat) : Int) h = fX12_better_128 K30 K62 62 g mv c L k t fl h ∧ ((fl = 1 ∧ ∀ b, b < sn s → b ≠ t → sf s b ≠ sf s t) ∨ (fl = 0 ∧ ∃ b, b < sn s ∧ b ≠ t ∧ sf s b = sf s t)) := by
    refine lp (fun N b (fl : Int) => fX12_better_77 K30 K62 N 62 g mv c L k t fl b h) (fun b fl => (fl = 1 ∧ ∀ b', b' < b → b' ≠ t → sf s b' ≠ sf s t) ∨ (fl = 0 ∧ ∃ b', b' < b ∧ b' ≠ t ∧ sf s b' = sf s t)) (sn s) (fun r => ∃ fl : Int, r = fX12_better_128 K30 K62 62 g mv c L k t fl h ∧ ((fl = 1 ∧ ∀ b, b < sn s → b ≠ t → sf s b ≠ sf s t) ∨ (fl = 0 ∧ ∃ b, b < sn s ∧ b ≠ t ∧ sf s b = sf s t))) ?_ ?_ FU 0 1 (Nat.zero_le _) (FU_lt (by omega)) (Or.inl ⟨rfl, fun b hb => by omega⟩)
    · intro N b fl hb hi
      have l19 : fX12_better_119 K30 K62 (fX12_better_77 K30 K62 N) 62 g mv c L k t b h = fX12_better_77 K30 K62 N 62 g mv c L k t 0 ((b + 1 : Nat) : Int) h := by
        rw [fX12_better_119, fX12_better_120, c32_n (by omega) (by omega), ob]; rfl
      have l15 : fX12_better_115 K30 K62 (fX12_better_77 K30 K62 N) 62 g mv c L k t b h = fX12_better_77 K30 K62 N 62 g mv c L k t 1 ((b + 1 : Nat) : Int) h := by
        rw [fX12_better_115, fX12_better_120, c32_n (by omega) (by omega), ob]; rfl
      show ∃ s', _ ∧ fX12_better_77 K30 K62 (N + 1) 62 g mv c L k t fl b h = fX12_better_77 K30 K62 N 62 g mv c L k t s' ((b + 1 : Nat) : Int) h
      rw [fX12_better_77, R.nb, if_neg (by show ¬ (sn s : Int) ≤ b; omega)]
      simp only []
      rcases hi with ⟨hi1, hi2⟩ | ⟨hi1, b', hi2, hi3⟩
      · rw [if_neg (by omega)]
        by_cases w : b = t
        · rw [if_pos (by omega), l15]
          exact ⟨1, Or.inl ⟨rfl, fun b' hb' hbt => hi2 b' (by omega) hbt⟩, rfl⟩
        · rw [if_neg (by omega), gR 5 o rfl, ob, ald_of b m rfl (by omega), ob, ob, ald_of t m rfl (by omega), ob, q b hb, q t ht]
          by_cases y : sf s b = sf s t
          · rw [if_pos y, l19]
            exact ⟨0, Or.inr ⟨rfl, b, by omega, w, y⟩, rfl⟩
          · rw [if_neg y, l15]
            refine ⟨1, Or.inl ⟨rfl, fun b' hb' hbt => ?_⟩, rfl⟩
            by_cases v : b' = b
            · rw [v]; exact y
            · exact hi2 b' (by omega) hbt
      · rw [if_pos hi1, l19]
        exact ⟨0, Or.inr ⟨rfl, b', by omega, hi3⟩, rfl⟩
    · intro N fl hi
      show ∃ fl' : Int, fX12_better_77 K30 K62 (N + 1) 62 g mv c L k t fl (sn s) h = _ ∧ _
      rw [fX12_better_77, R.nb, if_pos (by show (sn s : Int) ≤ sn s; omega)]
      exact ⟨fl, rfl, hi⟩
  obtain ⟨fl, k1, k2⟩ := key
  refine ⟨fl, k1, ?_⟩
  rcases k2 with y | ⟨y1, b, y2, y3, y4⟩
  · exact Or.inl y
  · exact Or.inr ⟨y1, fun z => z b y2 y3 y4⟩
theorem r_scan (R : RI h s hist x flt) (G : GSc s) {g : Int} (hg : 0 ≤ g ∧ g ≤ 3) {U : Nat → Int} (u : h.2 79 = some (arr 0 144 U)) (eU : Eqn 144 U (sW s)) (K30 : Nat → Int → Int → Int → Hp → Option (Int × Hp)) (mv : Int) : ∃ h', fX12_better_62 K30 FU 62 g mv (cst (sn s) (sW s) (sX s) (sK s) g (sf s)) (cst (sn s) (sW s) (sX s) (sK s) g (sf s)) (mx (sf s) (sn s)) 0 h = fX12_better_257 K30 62 g mv (cst (sn s) (sW s) (sX s) (sK s) g (sf s)) (BS (sn s) (sW s) (sX s) (sK s) g (sf s)).1 h' ∧ RB (sn s) (sf s) h' (BS (sn s) (sW s) (sX s) (sK s) g (sf s)) ∧ RI h' s hist x flt ∧ Fr (fun k => 76 ≤ k ∧ k ≤ 78) h h' := by
  have hn := G.2.1
  have hr := G.rgs
  have hm := hr.mx_le; have hm0 := mx_nonneg (sf s) (sn s)
  obtain ⟨kk, hkk⟩ : ∃ kk : Nat, mx (sf s) (sn s) = (kk : Int) := ⟨(mx (sf s) (sn s)).toNat, by omega⟩
  have eB : BS (sn s) (sW s) (sX s) (sK s) g (sf s) = bs2 (mc (sn s) (sW s) (sX s) (sK s) g (sf s)) (okm (sn s) (sf s)) (kk + 1) (cst (sn s) (sW s) (sX s) (sK s) g (sf s), -1, -1) (sn s) := by unfold BS; rw [hkk, Int.toNat_natCast]
  rw [eB, hkk]
  generalize hc : cst (sn s) (sW s) (sX s) (sK s) g (sf s) = c
  refine lp (fun N t (z : Int × Hp) => fX12_better_62 K30 N 62 g mv c z.1 kk t z.2) (fun t z => z.1 = (bs2 (mc (sn s) (sW s) (sX s) (sK s) g (sf s)) (okm (sn s) (sf s)) (kk + 1) (c, -1, -1) t).1 ∧ RB (sn s) (sf s) z.2 (bs2 (mc (sn s) (sW s) (sX s) (sK s) g (sf s)) (okm (sn s) (sf s)) (kk + 1) (c, -1, -1) t) ∧ RI z.2 s hist x flt ∧ Fr (fun k => 76 ≤ k ∧ k ≤ 78) h z.2) (sn s) (fun r => ∃ h', r = fX12_better_257 K30 62 g mv c (bs2 (mc (sn s) (sW s) (sX s) (sK s) g (sf s)) (okm (sn s) (sf s)) (kk + 1) (c, -1, -1) (sn s)).1 h' ∧ RB (sn s) (sf s) h' (bs2 (mc (sn s) (sW s) (sX s) (sK s) g (sf s)) (okm (sn s) (sf s)) (kk + 1) (c, -1, -1) (sn s)) ∧ RI h' s hist x flt ∧ Fr (fun k => 76 ≤ k ∧ k ≤ 78) h h') ?_ ?_ FU 0 (c, h) (Nat.zero_le _) (FU_lt (by omega)) ⟨rfl, fun t v hz => ?_, R, Fr.rf⟩
  · intro N t ⟨L, h1⟩ ht ⟨a1, a2, a3, a4⟩
    have a1 : L = (bs2 (mc (sn s) (sW s) (sX s) (sK s) g (sf s)) (okm (sn s) (sf s)) (kk + 1) (c, -1, -1) t).1 := a1
    have a2 : RB (sn s) (sf s) h1 (bs2 (mc (sn s) (sW s) (sX s) (sK s) g (sf s)) (okm (sn s) (sf s)) (kk + 1) (c, -1, -1) t) := a2
    have a3 : RI h1 s hist x flt := a3
    have a4 : Fr (fun k => 76 ≤ k ∧ k ≤ 78) h h1 := a4
    generalize hst : bs2 (mc (sn s) (sW s) (sX s) (sK s) g (sf s)) (okm (sn s) (sf s)) (kk + 1) (c, -1, -1) t = st at a1 a2
    have es : bs2 (mc (sn s) (sW s) (sX s) (sK s) g (sf s)) (okm (sn s) (sf s)) (kk + 1) (c, -1, -1) (t + 1) = bs1 (mc (sn s) (sW s) (sX s) (sK s) g (sf s)) (okm (sn s) (sf s)) t (kk + 1) st := by rw [← hst]; rfl
    rw [es]
    show ∃ s' : Int × Hp, _ ∧ fX12_better_62 K30 (N + 1) 62 g mv c L kk t h1 = fX12_better_62 K30 N 62 g mv c s'.1 kk ((t + 1 : Nat) : Int) s'.2
    rw [fX12_better_62, a3.nb, if_neg (by show ¬ (sn s : Int) ≤ t; omega)]
    simp only []
    obtain ⟨fl, e2, hfl⟩ := r_alone a3 hn K30 (fX12_better_62 K30 N) g mv c L kk ht
    rw [e2, fX12_better_128]
    have hft := hr t ht
    have hft2 := lt_mx (g := sf s) ht
    -- the inner loop
    have L2 : ∃ h2, fX12_better_131 K30 (fX12_better_62 K30 N) FU 62 g mv c L kk t fl ((0 : Nat) : Int) h1 = fX12_better_251 K30 (fX12_better_62 K30 N) 62 g mv c (bs1 (mc (sn s) (sW s) (sX s) (sK s) g (sf s)) (okm (sn s) (sf s)) t (kk + 1) st).1 kk t h2 ∧ RB (sn s) (sf s) h2 (bs1 (mc (sn s) (sW s) (sX s) (sK s) g (sf s)) (okm (sn s) (sf s)) t (kk + 1) st) ∧ RI h2 s hist x flt ∧ Fr (fun k => 76 ≤ k ∧ k ≤ 78) h h2 := by
      refine lp (fun N' v (z : Int × Hp) => fX12_better_131 K30 (fX12_better_62 K30 N) N' 62 g mv c z.1 kk t fl v z.2) (fun v z => z.1 = (bs1 (mc (sn s) (sW s) (sX s) (sK s) g (sf s)) (okm (sn s) (sf s)) t v st).1 ∧ RB (sn s) (sf s) z.2 (bs1 (mc (sn s) (sW s) (sX s) (sK s) g (sf s)) (okm (sn s) (sf s)) t v st) ∧ RI z.2 s hist x flt ∧ Fr (fun k => 76 ≤ k ∧ k ≤ 78) h z.2) (kk + 1) (fun r => ∃ h2, r = fX12_better_251 K30 (fX12_better_62 K30 N) 62 g mv c (bs1 (mc (sn s) (sW s) (sX s) (sK s) g (sf s)) (okm (sn s) (sf s)) t (kk + 1) st).1 kk t h2 ∧ RB (sn s) (sf s) h2 (bs1 (mc (sn s) (sW s) (sX s) (sK s) g (sf s)) (okm (sn s) (sf s)) t (kk + 1) st) ∧ RI h2 s hist x flt ∧ Fr (fun k => 76 ≤ k ∧ k ≤ 78) h h2) ?_ ?_ FU 0 (L, h1) (Nat.zero_le _) (FU_lt (by omega)) ⟨a1, a2, a3, a4⟩
      · intro N' v ⟨L', h2⟩ hv ⟨b1, b2, b3, b4⟩
        have b1 : L' = (bs1 (mc (sn s) (sW s) (sX s) (sK s) g (sf s)) (okm (sn s) (sf s)) t v st).1 := b1
        have b2 : RB (sn s) (sf s) h2 (bs1 (mc (sn s) (sW s) (sX s) (sK s) g (sf s)) (okm (sn s) (sf s)) t v st) := b2
        have b3 : RI h2 s hist x flt := b3
        have b4 : Fr (fun k => 76 ≤ k ∧ k ≤ 78) h h2 := b4
        obtain ⟨N0, m, q⟩ := b3.nam
        obtain ⟨pa, fp, sm, o⟩ := b3.obj
        have l45 : ∀ (L1 : Int) (h3 : Hp), fX12_better_245 K30 (fX12_better_62 K30 N) (fX12_better_131 K30 (fX12_better_62 K30 N) N') 62 g mv c L1 kk t fl v h3 = fX12_better_131 K30 (fX12_better_62 K30 N) N' 62 g mv c L1 kk t fl ((v + 1 : Nat) : Int) h3 := by
          intro L1 h3
          rw [fX12_better_245, c32_n (by omega) (by omega), ob]; rfl
        have no : okm (sn s) (sf s) t v = false → ∃ s' : Int × Hp, (s'.1 = (bs1 (mc (sn s) (sW s) (sX s) (sK s) g (sf s)) (okm (sn s) (sf s)) t (v + 1) st).1 ∧ RB (sn s) (sf s) s'.2 (bs1 (mc (sn s) (sW s) (sX s) (sK s) g (sf s)) (okm (sn s) (sf s)) t (v + 1) st) ∧ RI s'.2 s hist x flt ∧ Fr (fun k => 76 ≤ k ∧ k ≤ 78) h s'.2) ∧ fX12_better_245 K30 (fX12_better_62 K30 N) (fX12_better_131 K30 (fX12_better_62 K30 N) N') 62 g mv c L' kk t fl v h2 = fX12_better_131 K30 (fX12_better_62 K30 N) N' 62 g mv c s'.1 kk t fl ((v + 1 : Nat) : Int) s'.2 := by
          intro hno
          rw [bs1_no hno, l45]
          exact ⟨(L', h2), ⟨b1, b2, b3, b4⟩, rfl⟩
        have yes : okm (sn s) (sf s) t v = true → ∃ s' : Int × Hp, (s'.1 = (bs1 (mc (sn s) (sW s) (sX s) (sK s) g (sf s)) (okm (sn s) (sf s)) t (v + 1) st).1 ∧ RB (sn s) (sf s) s'.2 (bs1 (mc (sn s) (sW s) (sX s) (sK s) g (sf s)) (okm (sn s) (sf s)) t (v + 1) st) ∧ RI s'.2 s hist x flt ∧ Fr (fun k => 76 ≤ k ∧ k ≤ 78) h s'.2) ∧ fX12_better_165 K30 (fX12_better_62 K30 N) (fX12_better_131 K30 (fX12_better_62 K30 N) N') 62 g mv c L' kk t fl v h2 = fX12_better_131 K30 (fX12_better_62 K30 N) N' 62 g mv c s'.1 kk t fl ((v + 1 : Nat) : Int) s'.2 := by
          intro hok
          obtain ⟨h3, e3, B3, R3, F3⟩ := r_try b3 G hg ((b4.2 79 (by omega)).trans u) eU K30 (fX12_better_62 K30 N) (fX12_better_131 K30 (fX12_better_62 K30 N) N') mv c kk fl ht (v := v) (by omega) b2
          have e4 : bs1 (mc (sn s) (sW s) (sX s) (sK s) g (sf s)) (okm (sn s) (sf s)) t (v + 1) st = if mc (sn s) (sW s) (sX s) (sK s) g (sf s) t v < (bs1 (mc (sn s) (sW s) (sX s) (sK s) g (sf s)) (okm (sn s) (sf s)) t v st).1 then (mc (sn s) (sW s) (sX s) (sK s) g (sf s) t v, (t : Int), (v : Int)) else bs1 (mc (sn s) (sW s) (sX s) (sK s) g (sf s)) (okm (sn s) (sf s)) t v st := by
            simp only [bs1]
            by_cases w : mc (sn s) (sW s) (sX s) (sK s) g (sf s) t v < (bs1 (mc (sn s) (sW s) (sX s) (sK s) g (sf s)) (okm (sn s) (sf s)) t v st).1
            · rw [if_pos w, if_pos ⟨hok, w⟩]
            · rw [if_neg w, if_neg (fun y => w y.2)]
          rw [b1, e3, l45, e4]
          exact ⟨(_, h3), ⟨rfl, B3, R3, b4.tr F3⟩, rfl⟩
        show ∃ s' : Int × Hp, _ ∧ fX12_better_131 K30 (fX12_better_62 K30 N) (N' + 1) 62 g mv c L' kk t fl v h2 = fX12_better_131 K30 (fX12_better_62 K30 N) N' 62 g mv c s'.1 kk t fl ((v + 1 : Nat) : Int) s'.2
        rw [fX12_better_131, if_neg (by omega), gR 5 o rfl, ob, ald_of t m rfl (by omega), ob, q t ht]
        by_cases w1 : (v : Int) = sf s t
        · rw [if_pos w1]
          exact no (okm_own w1)
        · rw [if_neg w1]
          by_cases w2 : v = kk
          · rw [if_pos (by omega)]
            rcases hfl with ⟨y1, y2⟩ | ⟨y1, y2⟩
            · rw [if_neg (by omega)]
              exact no (okm_alone (by omega) y2)
            · rw [if_pos y1]
              exact yes (okm_yes w1 (Or.inr y2))
          · rw [if_neg (by omega)]
            exact yes (okm_yes w1 (Or.inl (by omega)))
      · intro N' ⟨L', h2⟩ ⟨b1, b2, b3, b4⟩
        have b1 : L' = (bs1 (mc (sn s) (sW s) (sX s) (sK s) g (sf s)) (okm (sn s) (sf s)) t (kk + 1) st).1 := b1
        show ∃ h3, fX12_better_131 K30 (fX12_better_62 K30 N) (N' + 1) 62 g mv c L' kk t fl ((kk + 1 : Nat) : Int) h2 = _ ∧ _
        rw [fX12_better_131, if_pos (by omega), b1]
        exact ⟨h2, rfl, b2, b3, b4⟩
    obtain ⟨h2, e3, B2, R2, F2⟩ := L2
    have e3 : fX12_better_131 K30 (fX12_better_62 K30 N) FU 62 g mv c L kk t fl 0 h1 = fX12_better_251 K30 (fX12_better_62 K30 N) 62 g mv c (bs1 (mc (sn s) (sW s) (sX s) (sK s) g (sf s)) (okm (sn s) (sf s)) t (kk + 1) st).1 kk t h2 := e3
    rw [e3, fX12_better_251, c32_n (by omega) (by omega), ob]
    exact ⟨(_, h2), ⟨rfl, B2, R2, F2⟩, rfl⟩
  · intro N ⟨L, h1⟩ ⟨a1, a2, a3, a4⟩
    have a1 : L = (bs2 (mc (sn s) (sW s) (sX s) (sK s) g (sf s)) (okm (sn s) (sf s)) (kk + 1) (c, -1, -1) (sn s)).1 := a1
    have a3 : RI h1 s hist x flt := a3
    show ∃ h', fX12_better_62 K30 (N + 1) 62 g mv c L kk (sn s) h1 = _ ∧ _
    rw [fX12_better_62, a3.nb, if_pos (by show (sn s : Int) ≤ sn s; omega), a1]
    exact ⟨h1, rfl, a2, a3, a4⟩
  · have : (-1 : Int) = t := congrArg Prod.fst hz
    omega
end
