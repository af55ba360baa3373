theorem dif_sym (f g : Nat → Int) (a b : Nat) : dif f g a b = dif f g b a := by
  unfold dif
  have : ((f a = f b ↔ g a = g b)) ↔ ((f b = f a ↔ g b = g a)) := ⟨fun z => ⟨fun y => (z.mp y.symm).symm, fun y => (z.mpr y.symm).symm⟩, fun z => ⟨fun y => (z.mp y.symm).symm, fun y => (z.mpr y.symm).symm⟩⟩
  by_cases y : f a = f b ↔ g a = g b
  · rw [if_pos y, if_pos (this.mp y)]
  · rw [if_neg y, if_neg (fun w => y (this.mpr w))]
theorem dif_congr {n : Nat} {f f' g g' : Nat → Int} (e1 : Eqn n f f') (e2 : Eqn n g g') {a b : Nat} (ha : a < n) (hb : b < n) : dif f g a b = dif f' g' a b := by
  unfold dif; rw [e1 a ha, e1 b hb, e2 a ha, e2 b hb]
theorem apart_congr {n : Nat} {f f' g g' : Nat → Int} (e1 : Eqn n f f') (e2 : Eqn n g g') : apart n f g = apart n f' g' :=
  sumN_congr (fun a ha => sumN_congr (fun b hb => dif_congr e1 e2 ha (by omega)))
theorem r_apart {h : Hp} {s : Scn} {hist : List Scn} {x : Aux} {flt : Int} (R : RI h s hist x flt) (hn : sn s ≤ 12) {k : Nat} (hk : k < 4) (hks : (x.2.2.1 k).1 = sn s) : fX12_differ_27 FU 62 k 0 0 h = some (apart (sn s) (sf s) (x.2.2.1 k).2, h) := by
  obtain ⟨pa, fp, sm, o⟩ := R.obj
  obtain ⟨r1, r2, m1, m2, q⟩ := R.kps
  obtain ⟨N, mN, qN⟩ := R.nam
  have qk := (q k hk).2
  rw [hks] at qk
  have hG : ∀ a b, -1 ≤ (if a < b then dif (sf s) (x.2.2.1 k).2 a b else 0) ∧ (if a < b then dif (sf s) (x.2.2.1 k).2 a b else 0) ≤ 1 := by
    intro a b
    have := dif_01 (sf s) (x.2.2.1 k).2 a b
    split <;> omega
  have e1 : apart (sn s) (sf s) (x.2.2.1 k).2 = sumN (sn s) (fun a => sumN (sn s) (fun b => if a < b then dif (sf s) (x.2.2.1 k).2 a b else 0)) := by
    rw [sumN_tri (fun a b => dif (sf s) (x.2.2.1 k).2 a b)]
    exact sumN_congr (fun a ha => sumN_congr (fun b hb => dif_sym _ _ _ _))
  rw [e1]
  refine lpsum (fun M i c => fX12_differ_27 M 62 k c i h) (fun a => sumN (sn s) (fun b => if a < b then dif (sf s) (x.2.2.1 k).2 a b else 0)) (sn s) 0 0 12 _ (by omega) (Nat.zero_le _) (fun i hi => by omega) (fun i hi => ?_) ?_ ?_
  · have h1 := sumN_bd (n := sn s) (B := 1) (fun b _ => hG i b)
    exact ⟨by show -12 ≤ sumN (sn s) _; omega, by show sumN (sn s) _ ≤ 12; omega⟩
  · intro M a c _ ha h2 h3
    simp only [fX12_differ_27]
    rw [R.nb, if_neg (by show ¬ (sn s : Int) ≤ a; omega), c32_n (by omega) (by omega), ob]
    refine lpsum (fun M' b c => fX12_differ_40 (fX12_differ_27 M) M' 62 k c a b h) (fun b => if a < b then dif (sf s) (x.2.2.1 k).2 a b else 0) (sn s) (a + 1) c 1 _ (by omega) (by omega) (fun i hi => by rw [if_neg (by omega)]) (fun b _ => hG a b) ?_ ?_
    · intro M' b c' hb0 hb hc0 hc1
      simp only [fX12_differ_40]
      rw [R.nb, if_neg (by show ¬ (sn s : Int) ≤ b; omega), gR 5 o rfl, ob, ald_of a mN rfl (by omega), ob, ob, ald_of b mN rfl (by omega), ob, qN a ha, qN b hb, if_pos (show a < b by omega)]
      have key : ∀ z : Int, (z = 0 ∨ z = 1) → fX12_differ_70 (fX12_differ_27 M) (fX12_differ_40 (fX12_differ_27 M) M') 62 k c' a b z h = fX12_differ_40 (fX12_differ_27 M) M' 62 k (c' + if z = (if (x.2.2.1 k).2 a = (x.2.2.1 k).2 b then 1 else 0) then 0 else 1) a ((b + 1 : Nat) : Int) h := by
        intro z hz
        simp only [fX12_differ_70, fX12_differ_101, fX12_differ_107]
        rw [gR 16 o rfl, ob, ald_of (12 * k + a) m2 (by omega) (by omega), ob, ob, ald_of (12 * k + b) m2 (by omega) (by omega), ob, qk a ha, qk b hb]
        by_cases y : (x.2.2.1 k).2 a = (x.2.2.1 k).2 b
        · rw [if_pos y, if_pos y]
          by_cases w : z = 1
          · rw [if_pos w, if_pos w, c32_n (by omega) (by omega), ob, Int.add_zero]; rfl
          · rw [if_neg w, if_neg w, c32_n (by omega) (by omega), ob, c32_n (by omega) (by omega), ob]; rfl
        · rw [if_neg y, if_neg y]
          by_cases w : z = 0
          · rw [if_pos w, if_pos w, c32_n (by omega) (by omega), ob, Int.add_zero]; rfl
          · rw [if_neg w, if_neg w, c32_n (by omega) (by omega), ob, c32_n (by omega) (by omega), ob]; rfl
      by_cases y : sf s a = sf s b
      · rw [if_pos y, key 1 (Or.inr rfl)]
        by_cases w : (x.2.2.1 k).2 a = (x.2.2.1 k).2 b <;> simp [dif, y, w]
      · rw [if_neg y, key 0 (Or.inl rfl)]
        by_cases w : (x.2.2.1 k).2 a = (x.2.2.1 k).2 b <;> simp [dif, y, w]
    · intro M'
      simp only [fX12_differ_40, fX12_differ_113]
      rw [R.nb, if_pos (by show (sn s : Int) ≤ sn s; omega), c32_n (by omega) (by omega), ob]; rfl
  · intro M
    simp only [fX12_differ_27, fX12_differ_119]
    rw [R.nb, if_pos (by show (sn s : Int) ≤ sn s; omega), Int.zero_add]
theorem kw_0 {s : Scn} {x : Aux} {a : Int} (h : kw s x a = 0) : ∃ k : Nat, a = k ∧ k < 4 ∧ (x.2.2.1 k).1 = sn s := by
  unfold kw at h
  by_cases e : 0 ≤ a ∧ a < 4
  · rw [if_pos e] at h
    refine ⟨a.toNat, by omega, by omega, ?_⟩
    by_cases z : (x.2.2.1 a.toNat).1 = sn s
    · exact z
    · rw [if_neg z] at h; omega
  · rw [if_neg e] at h; omega
theorem kw_nn (s : Scn) (x : Aux) (a : Int) : 0 ≤ kw s x a := by unfold kw; split <;> (try split) <;> omega
theorem both_differ {h : Hp} (B : Both h) (a : Int) : ∃ r h1 h2, fX11_differ 1 a h = some (r, h1) ∧ fX12_differ 62 a h1 = some (r, h2) ∧ Both h2 := by
  obtain ⟨s, hist, x, flt, G, C, R⟩ := B
  have hn := G.1.2.1
  unfold fX11_differ fX12_differ
  rw [co C.1, ob, c_keepFault C, ob]
  by_cases e : kw s x a = 0
  · obtain ⟨k, rfl, hk, hks⟩ := kw_0 e
    obtain ⟨h2, e2, R2, C1, F2, B2⟩ := read2 G C R
    obtain ⟨c, f, p, q, g1, g2⟩ := c_kept C1 hk
    obtain ⟨f7, P7, q7⟩ := C1.par
    rw [hks] at p q
    refine ⟨apart (sn s) (sf s) (x.2.2.1 k).2, hput h 1 (BO 0), h2, ?_, ?_, B2⟩
    · rw [if_pos e, C.put1 0, ob, gR 0 C1.1 rfl, ob, gR 5 C1.now rfl, ob, g1, ob, g2, ob, co P7.1, ob, pairsApart_ok G.1.1 hn P7 p, ob, apart_congr q7 q]
    · rw [e2, ob, R2.cb, ob, r_keepWhy R2, ob, if_pos (by show kw s x k ≤ 0; omega), r_apart R2 hn hk hks]
  · obtain ⟨h2, h3, e2, R2, e3, B3⟩ := refuse2 G C R (kw s x a)
    have := kw_nn s x a
    refine ⟨-1, hput h 1 (BO (kw s x a)), h3, ?_, ?_, B3⟩
    · rw [if_neg e, co C.1, ob, c_refuse C, ob]
    · rw [e2, ob, R2.cb, ob, r_keepWhy R2, ob, if_neg (by show ¬ kw s x a ≤ 0; omega), R2.cb, ob, r_keepWhy R2, ob, R2.cb, ob, e3, ob]
theorem both_both {h : Hp} (B : Both h) (a : Int) : ∃ r h1 h2, fX11_both 1 a h = some (r, h1) ∧ fX12_both 62 a h1 = some (r, h2) ∧ Both h2 := by
  obtain ⟨s, hist, x, flt, G, C, R⟩ := B
  have hn := G.1.2.1
  unfold fX11_both fX12_both
  rw [co C.1, ob, c_keepFault C, ob]
  by_cases e : kw s x a = 0
  · obtain ⟨k, rfl, hk, hks⟩ := kw_0 e
    obtain ⟨h1, e1, C1, F1⟩ := c_change C hn
    obtain ⟨c, f, p, q, g1, g2⟩ := c_kept C1 hk
    obtain ⟨f7, P7, q7⟩ := C1.par
    rw [hks] at p q
    have rk := (G.2.2.2.2.1 k hk).2
    rw [hks] at rk
    have rs := G.1.rgs
    obtain ⟨h2, g, e2, P2, N2, F2⟩ := meet_ok hn (by omega) P7 p (fun i hi => by rw [q7 i hi]; have := rs i hi; have := rs.lt hi; omega) (fun i hi => by rw [q i hi]; have := rk i hi; have := rk.lt hi; omega)
    have FA : Fr (fun k => 7 ≤ k ∧ k ≤ 9) h1 h2 := F2.mono (fun k hk => by rcases hk with z | z | z <;> omega)
    have C2 := C1.setp FA P2
    have F3 : FC h h2 := F1.tr (FC.of FA (fun k hk => by omega))
    obtain ⟨h3, h4, e3, R3, F4, e4, R4, F5⟩ := change2 G R F3
    obtain ⟨r1, r2, r3, r4, r5, s1, s2, s3, s4, s5⟩ := R4.scr
    have L : ∃ h5 F, fX12_both_29 FU 62 k 0 h4 = fX12_both_70 62 h5 ∧ h5.2 76 = some (arr 0 12 F) ∧ (∀ i, i < sn s → F i = 12 * sf s i + (x.2.2.1 k).2 i) ∧ RI h5 s ((s :: hist).take 20) x 0 ∧ Fr (fun k => k = 76) h4 h5 := by
      refine lp (fun N i (s' : Hp) => fX12_both_29 N 62 k i s') (fun i s' => ∃ F, s'.2 76 = some (arr 0 12 F) ∧ (∀ j, j < i → F j = 12 * sf s j + (x.2.2.1 k).2 j) ∧ RI s' s ((s :: hist).take 20) x 0 ∧ Fr (fun k => k = 76) h4 s') (sn s) (fun o => ∃ h5 F, o = fX12_both_70 62 h5 ∧ h5.2 76 = some (arr 0 12 F) ∧ (∀ i, i < sn s → F i = 12 * sf s i + (x.2.2.1 k).2 i) ∧ RI h5 s ((s :: hist).take 20) x 0 ∧ Fr (fun k => k = 76) h4 h5) ?_ ?_ FU 0 h4 (Nat.zero_le _) (FU_lt (by omega)) ⟨r1, s1, fun j hj => by omega, R4, Fr.rf⟩
      · intro N i s' hi ⟨F, a1, a2, a3, a5⟩
        obtain ⟨pa, fp, sm, o⟩ := a3.obj
        obtain ⟨Nm, mN, qN⟩ := a3.nam
        obtain ⟨t1, t2, m1, m2, qk⟩ := a3.kps
        have qk2 := (qk k hk).2 i (by omega)
        have b1 := rs i hi; have b2 := rs.lt hi; have b3 := rk i hi; have b4 := rk.lt hi
        simp only [fX12_both_29]
        rw [a3.nb, if_neg (by show ¬ (sn s : Int) ≤ i; omega), gR 20 o rfl, ob, gR 5 o rfl, ob, ald_of i mN rfl (by omega), ob, gR 16 o rfl, ob, ald_of (12 * k + i) m2 (by omega) (by omega), ob, qN i hi, qk2, c32_n (by omega) (by omega), ob, ast_of i a1 rfl (by omega), ob, c32_n (by omega) (by omega), ob]
        refine ⟨_, ⟨_, hput_eq, fun j hj => ?_, a3.pu (by omega) _, a5.put rfl⟩, rfl⟩
        rw [ups_at]
        by_cases z : j = i
        · subst z; rw [if_pos rfl]
        · rw [if_neg z]; exact a2 j (by omega)
      · intro N s' ⟨F, a1, a2, a3, a5⟩
        simp only [fX12_both_29]
        rw [a3.nb, if_pos (by show (sn s : Int) ≤ sn s; omega)]
        exact ⟨s', F, rfl, a1, a2, a3, a5⟩
    obtain ⟨h5, F, e5, m5, q5, R5, Fr5⟩ := L
    obtain ⟨h6, g', Fg, e6, m6, q6, N6, R6, Fr6⟩ := r_number R5 hn m5
    have eg : Eqn (sn s) g' g := RN.same N6 N2 (fun i j hi hj => by
      rw [q5 i hi, q5 j hj, q7 i hi, q7 j hj, q i hi, q j hj]
      have b1 := rk i hi; have b2 := rk.lt hi; have b3 := rk j hj; have b4 := rk.lt hj
      constructor <;> intro z <;> omega)
    obtain ⟨h7, e7, R7, Fr7⟩ := r_become R6 hn (hist12 G) (Or.inl rfl) m6 (fun j hj => (q6 j hj).trans (eg j hj))
    obtain ⟨pa5, fp5, sm5, o5⟩ := R5.obj
    obtain ⟨pa6, fp6, sm6, o6⟩ := R6.obj
    refine ⟨mx g (sn s), h2, h7, ?_, ?_, bo ⟨setf_good G.1 N2.1, take20_good G.1 G.2.1, G.2.2⟩ C2 (F5.tr ((FM.of Fr5 (fun k hk => by omega)).tr ((FM.of Fr6 (fun k hk => by omega)).tr (FM.of Fr7 (fun k hk => by omega))))) R7⟩
    · rw [if_pos e, co C.1, ob, C.cr1, ob, e1, ob, gR 0 C1.1 rfl, ob, gR 5 C1.now rfl, ob, g1, ob, g2, ob, co P7.1, ob, e2, ob, gR 0 C2.1 rfl, ob, gR 5 C2.now rfl, ob, gI 1 P2.1 rfl, ob]
    · rw [e3, ob, R3.cb, ob, r_keepWhy R3, ob, if_pos (by show kw s x k ≤ 0; omega), R3.cb, ob, e4, ob, e5]
      unfold fX12_both_70
      rw [gR 20 o5 rfl, ob, R5.cb, ob, e6, ob, gR 20 o6 rfl, ob, R6.cb, ob, e7, ob, mxe eg]
  · obtain ⟨h2, h3, e2, R2, e3, B3⟩ := refuse2 G C R (kw s x a)
    have := kw_nn s x a
    refine ⟨-1, hput h 1 (BO (kw s x a)), h3, ?_, ?_, B3⟩
    · rw [if_neg e, co C.1, ob, c_refuse C, ob]
    · rw [e2, ob, R2.cb, ob, r_keepWhy R2, ob, if_neg (by show ¬ kw s x a ≤ 0; omega), R2.cb, ob, r_keepWhy R2, ob, R2.cb, ob, e3, ob]
