section
variable {h : Hp} {s : Scn} {hist : List Scn} {x : Aux} {flt : Int}
/-- quarrels alone: the ways don't matter -/
theorem r_cost3 (R : RI h s hist x flt) (G : GSc s) {q m : Nat} {f : Nat → Int} (e : h.2 q = some (arr 0 m f)) (hm : sn s ≤ m) (hr : RGS (sn s) f) : fX12_costOf 62 q 3 h = some (cst (sn s) (sW s) (sX s) (sK s) 3 f, h) := by
  have hn := G.2.1
  unfold fX12_costOf
  rw [R.cb, ob, r_heaps R hn e hm (fun i hi => by have := hr i hi; have := hr.lt hi; omega), ob, if_neg (by omega), if_neg (by omega), r_c193q R hn e hm G.xok, rqr_eq hn G.xok (fun a b ha hb => G.2.2.2.2.2.2.2.1 a b (by omega) (by omega)) (fun a b ha hb => G.2.2.2.2.2.2.2.2.2.2.1 a b (by omega) (by omega)) hr]
  unfold cst
  rw [if_pos rfl, cfold_s (by omega)]
  rfl
theorem r_gath (R : RI h s hist x flt) (G : GSc s) {q : Nat} (hq : q = 80) {Od : Nat → Int} (e : h.2 q = some (arr 0 12 Od)) {ord : Nat → Nat} (ho : ∀ i, i < sn s → Od i = ord i ∧ ord i < sn s) (hsur : ∀ t, t < sn s → ∃ i, i < sn s ∧ ord i = t) :
    ∃ (h' : Hp) (g F : Nat → Int), fX12_gather 62 q h = some (cst (sn s) (sW s) (sX s) (sK s) 3 g, h') ∧ h'.2 76 = some (arr 0 12 F) ∧ Eqn (sn s) F g ∧ RN (sn s) (gl (sX s) (sK s) ord (sn s)).1 g ∧ RI h' s hist x flt ∧ Fr (fun k => k = 76 ∨ k = 78) h h' := by
  have hn := G.2.1
  have hn1 := G.1
  obtain ⟨r1, r2, r3, r4, r5, s1, s2, s3, s4, s5⟩ := R.scr
  subst hq
  have L1 : ∃ g F, fX12_gather 62 80 h = fX12_gather_23 62 80 g ∧ g.2 76 = some (arr 0 12 F) ∧ (∀ t, t < sn s → F t = -1) ∧ RI g s hist x flt ∧ Fr (fun k => k = 76 ∨ k = 78) h g := by
    unfold fX12_gather
    refine lp (fun N i (g : Hp) => fX12_gather_2 N 62 80 i g) (fun i g => ∃ F, g.2 76 = some (arr 0 12 F) ∧ (∀ t, t < i → F t = -1) ∧ RI g s hist x flt ∧ Fr (fun k => k = 76 ∨ k = 78) h g) (sn s) (fun o => ∃ g F, o = fX12_gather_23 62 80 g ∧ g.2 76 = some (arr 0 12 F) ∧ (∀ t, t < sn s → F t = -1) ∧ RI g s hist x flt ∧ Fr (fun k => k = 76 ∨ k = 78) h g) ?_ ?_ FU 0 h (Nat.zero_le _) (FU_lt (by omega)) ⟨r1, s1, fun j hj => by omega, R, Fr.rf⟩
    · intro N i g hi ⟨F, a1, a2, a3, a5⟩
      obtain ⟨pa, fp, sm, o⟩ := a3.obj
      rw [fX12_gather_2, a3.nb, if_neg (by show ¬ (sn s : Int) ≤ i; omega)]
      simp only []
      rw [gR 20 o rfl, ob, ast_of i a1 rfl (by omega), ob, c32_n (by omega) (by omega), ob]
      refine ⟨_, ⟨_, hput_eq, fun j hj => ?_, a3.pu (by omega) _, a5.put (Or.inl rfl)⟩, rfl⟩
      rw [ups_at]
      by_cases z : j = i
      · rw [if_pos z]
      · rw [if_neg z]; exact a2 j (by omega)
    · intro N g ⟨F, a1, a2, a3, a5⟩
      rw [fX12_gather_2, a3.nb, if_pos (by show (sn s : Int) ≤ sn s; omega)]
      exact ⟨g, F, rfl, a1, a2, a3, a5⟩
  obtain ⟨g1, F1, e1, m1, q1, R1, Fr1⟩ := L1
  have L2 : ∃ g F, fX12_gather_23 62 80 g1 = fX12_gather_118 62 g ∧ g.2 76 = some (arr 0 12 F) ∧ (∀ t, t < sn s → F t = (gl (sX s) (sK s) ord (sn s)).1 t) ∧ RI g s hist x flt ∧ Fr (fun k => k = 76 ∨ k = 78) h g := by
    unfold fX12_gather_23
    refine lp (fun N i (z : Int × Hp) => fX12_gather_27 N 62 80 z.1 i z.2) (fun i z => z.1 = (gl (sX s) (sK s) ord i).2 ∧ ∃ F, z.2.2 76 = some (arr 0 12 F) ∧ (∀ t, t < sn s → F t = (gl (sX s) (sK s) ord i).1 t) ∧ RI z.2 s hist x flt ∧ Fr (fun k => k = 76 ∨ k = 78) h z.2) (sn s) (fun o => ∃ g F, o = fX12_gather_118 62 g ∧ g.2 76 = some (arr 0 12 F) ∧ (∀ t, t < sn s → F t = (gl (sX s) (sK s) ord (sn s)).1 t) ∧ RI g s hist x flt ∧ Fr (fun k => k = 76 ∨ k = 78) h g) ?_ ?_ FU 0 (0, g1) (Nat.zero_le _) (FU_lt (by omega)) ⟨rfl, F1, m1, q1, R1, Fr1⟩
    · intro N i ⟨c, g⟩ hi ⟨h3, F, a1, a2, a3, a5⟩
      have h3 : c = (gl (sX s) (sK s) ord i).2 := h3
      have a1 : g.2 76 = some (arr 0 12 F) := a1
      have a3 : RI g s hist x flt := a3
      have a5 : Fr (fun k => k = 76 ∨ k = 78) h g := a5
      obtain ⟨pa, fp, sm, o⟩ := a3.obj
      have oi := ho i hi
      have bd := gl_bd (sX s) (sK s) ord i
      have g80 : g.2 80 = some (arr 0 12 Od) := (a5.2 80 (by omega)).trans e
      show ∃ s', _ ∧ fX12_gather_27 (N + 1) 62 80 c i g = _
      rw [fX12_gather_27, a3.nb, if_neg (by show ¬ (sn s : Int) ≤ i; omega)]
      simp only []
      rw [ald_of i g80 rfl (by omega), ob, oi.1, gR 20 o rfl, ob, ald_of (ord i) a1 rfl (by omega), ob, a2 _ oi.2]
      by_cases e2 : (gl (sX s) (sK s) ord i).1 (ord i) = -1
      · have egl : gl (sX s) (sK s) ord (i + 1) = (gst (sX s) (sK s) (gl (sX s) (sK s) ord i).1 (gl (sX s) (sK s) ord i).2 (ord i), (gl (sX s) (sK s) ord i).2 + 1) := by
          show (if (gl (sX s) (sK s) ord i).1 (ord i) = -1 then _ else _) = _
          rw [if_pos e2]
        have L : ∃ g2 F2, fX12_gather_57 (fX12_gather_27 N) FU 62 80 c i (ord i) 0 g = fX12_gather_109 (fX12_gather_27 N) 62 80 c i g2 ∧ g2.2 76 = some (arr 0 12 F2) ∧ (∀ t, t < sn s → F2 t = gst (sX s) (sK s) (gl (sX s) (sK s) ord i).1 c (ord i) t) ∧ RI g2 s hist x flt ∧ Fr (fun k => k = 76 ∨ k = 78) h g2 := by
          refine lp (fun N' b (g : Hp) => fX12_gather_57 (fX12_gather_27 N) N' 62 80 c i (ord i) b g) (fun b g => ∃ F2, g.2 76 = some (arr 0 12 F2) ∧ (∀ t, t < b → F2 t = gst (sX s) (sK s) (gl (sX s) (sK s) ord i).1 c (ord i) t) ∧ (∀ t, b ≤ t → t < sn s → F2 t = (gl (sX s) (sK s) ord i).1 t) ∧ RI g s hist x flt ∧ Fr (fun k => k = 76 ∨ k = 78) h g) (sn s) (fun r => ∃ g2 F2, r = fX12_gather_109 (fX12_gather_27 N) 62 80 c i g2 ∧ g2.2 76 = some (arr 0 12 F2) ∧ (∀ t, t < sn s → F2 t = gst (sX s) (sK s) (gl (sX s) (sK s) ord i).1 c (ord i) t) ∧ RI g2 s hist x flt ∧ Fr (fun k => k = 76 ∨ k = 78) h g2) ?_ ?_ FU 0 g (Nat.zero_le _) (FU_lt (by omega)) ⟨F, a1, fun t ht => by omega, fun t _ ht => a2 t ht, a3, a5⟩
          · intro N' b g3 hb ⟨F2, b1, b2, b3, b4, b5⟩
            obtain ⟨pa3, fp3, sm3, o3⟩ := b4.obj
            have wr : ((gl (sX s) (sK s) ord i).1 b = -1 ∧ (b = ord i ∨ pul (sX s) (sK s) (ord i) b = true)) → ∃ s', (∃ F2, s'.2 76 = some (arr 0 12 F2) ∧ (∀ t, t < b + 1 → F2 t = gst (sX s) (sK s) (gl (sX s) (sK s) ord i).1 c (ord i) t) ∧ (∀ t, b + 1 ≤ t → t < sn s → F2 t = (gl (sX s) (sK s) ord i).1 t) ∧ RI s' s hist x flt ∧ Fr (fun k => k = 76 ∨ k = 78) h s') ∧ fX12_gather_95 (fX12_gather_27 N) (fX12_gather_57 (fX12_gather_27 N) N') 62 80 c i (ord i) b g3 = fX12_gather_57 (fX12_gather_27 N) N' 62 80 c i (ord i) ((b + 1 : Nat) : Int) s' := by
              intro hc
              refine ⟨hput g3 76 (arr 0 12 (ups F2 b c)), ⟨ups F2 b c, hput_eq, fun t ht => ?_, fun t h1 h2 => ?_, b4.pu (by omega) _, b5.put (Or.inl rfl)⟩, ?_⟩
              · rw [ups_at]
                by_cases y : t = b
                · subst y; rw [if_pos rfl]; unfold gst; rw [if_pos hc]
                · rw [if_neg y]; exact b2 t (by omega)
              · rw [ups_at, if_neg (by omega)]; exact b3 t (by omega) h2
              · rw [fX12_gather_95, gR 20 o3 rfl, ob, ast_of b b1 rfl (by omega), ob, fX12_gather_103, c32_n (by omega) (by omega), ob]; rfl
            have sk : ¬ ((gl (sX s) (sK s) ord i).1 b = -1 ∧ (b = ord i ∨ pul (sX s) (sK s) (ord i) b = true)) → ∃ s', (∃ F2, s'.2 76 = some (arr 0 12 F2) ∧ (∀ t, t < b + 1 → F2 t = gst (sX s) (sK s) (gl (sX s) (sK s) ord i).1 c (ord i) t) ∧ (∀ t, b + 1 ≤ t → t < sn s → F2 t = (gl (sX s) (sK s) ord i).1 t) ∧ RI s' s hist x flt ∧ Fr (fun k => k = 76 ∨ k = 78) h s') ∧ fX12_gather_103 (fX12_gather_27 N) (fX12_gather_57 (fX12_gather_27 N) N') 62 80 c i (ord i) b g3 = fX12_gather_57 (fX12_gather_27 N) N' 62 80 c i (ord i) ((b + 1 : Nat) : Int) s' := by
              intro hc
              refine ⟨g3, ⟨F2, b1, fun t ht => ?_, fun t h1 h2 => b3 t (by omega) h2, b4, b5⟩, ?_⟩
              · by_cases y : t = b
                · subst y; unfold gst; rw [if_neg hc]; exact b3 t (Nat.le_refl _) hb
                · exact b2 t (by omega)
              · rw [fX12_gather_103, c32_n (by omega) (by omega), ob]; rfl
            rw [fX12_gather_57, b4.nb, if_neg (by show ¬ (sn s : Int) ≤ b; omega)]
            simp only []
            rw [gR 20 o3 rfl, ob, ald_of b b1 rfl (by omega), ob, b3 b (Nat.le_refl _) hb]
            by_cases w : (gl (sX s) (sK s) ord i).1 b = -1
            · rw [if_pos w]
              by_cases w2 : b = ord i
              · rw [if_pos (by omega)]
                exact wr ⟨w, Or.inl w2⟩
              · rw [if_neg (by omega), b4.cb, ob, r_like b4 G (by omega) (by omega), ob]
                by_cases w3 : pul (sX s) (sK s) (ord i) b = true
                · rw [if_pos w3, if_neg one0]
                  exact wr ⟨w, Or.inr w3⟩
                · rw [if_neg w3, if_pos rfl]
                  exact sk (fun y => y.2.elim w2 w3)
            · rw [if_neg w]
              exact sk (fun y => w y.1)
          · intro N' g3 ⟨F2, b1, b2, b3, b4, b5⟩
            rw [fX12_gather_57, b4.nb, if_pos (by show (sn s : Int) ≤ sn s; omega)]
            exact ⟨g3, F2, rfl, b1, b2, b4, b5⟩
        obtain ⟨g2, F2, e3, c1, c2, c3, c5⟩ := L
        refine ⟨(c + 1, g2), ⟨by show c + 1 = (gl (sX s) (sK s) ord (i + 1)).2; rw [egl, h3], F2, c1, fun t ht => by rw [egl]; show F2 t = gst (sX s) (sK s) (gl (sX s) (sK s) ord i).1 (gl (sX s) (sK s) ord i).2 (ord i) t; rw [← h3]; exact c2 t ht, c3, c5⟩, ?_⟩
        have e3' : fX12_gather_57 (fX12_gather_27 N) FU 62 80 c i (ord i) 0 g = fX12_gather_109 (fX12_gather_27 N) 62 80 c i g2 := e3
        rw [if_pos e2, e3', fX12_gather_109, c32_n (by omega) (by omega), ob, fX12_gather_112, c32_n (by omega) (by omega), ob]; rfl
      · have egl : gl (sX s) (sK s) ord (i + 1) = gl (sX s) (sK s) ord i := by
          show (if (gl (sX s) (sK s) ord i).1 (ord i) = -1 then _ else _) = _
          rw [if_neg e2]
        refine ⟨(c, g), ?_, ?_⟩
        · rw [egl]; exact ⟨h3, F, a1, a2, a3, a5⟩
        · rw [if_neg e2, fX12_gather_112, c32_n (by omega) (by omega), ob]; rfl
    · intro N ⟨c, g⟩ ⟨h3, F, a1, a2, a3, a5⟩
      have a3 : RI g s hist x flt := a3
      show ∃ g' F, fX12_gather_27 (N + 1) 62 80 c (sn s) g = _ ∧ _
      rw [fX12_gather_27, a3.nb, if_pos (by show (sn s : Int) ≤ sn s; omega)]
      exact ⟨g, F, rfl, a1, a2, a3, a5⟩
  obtain ⟨g2, F2, e2, m2, q2, R2, Fr2⟩ := L2
  obtain ⟨g3, g, Fg, e3, m3, q3, N3, R3, Fr3⟩ := r_number R2 hn m2
  obtain ⟨pa2, fp2, sm2, o2⟩ := R2.obj
  obtain ⟨pa3, fp3, sm3, o3⟩ := R3.obj
  have hc := r_cost3 R3 G m3 (by omega) (N3.1.congr (fun i hi => (q3 i hi).symm))
  refine ⟨g3, g, Fg, ?_, m3, q3, ⟨N3.1, fun i j hi hj => by rw [N3.2 i j hi hj, q2 i hi, q2 j hj]⟩, R3, Fr2.tr Fr3⟩
  rw [e1, e2, fX12_gather_118, gR 20 o2 rfl, ob, R2.cb, ob, e3, ob, gR 20 o3 rfl, ob, R3.cb, ob, hc, ob, cst_congr hn (fun _ _ => rfl) (fun _ _ => rfl) (fun _ _ => rfl) q3 3]
/-- scratch of the class may hold anything -/
theorem CI.lik {h' : Hp} (C : CI h s hist x flt) (F : Fr (fun k => k = 45 ∨ k = 46) h h') (N : ∃ r1 r2, h'.2 45 = some (arr 0 12 r1) ∧ h'.2 46 = some (arr 1 128 r2)) : CI h' s hist x flt := by
  obtain ⟨c1, c2, ⟨A, nx, c3⟩, c4, c5, c6, c7, ⟨⟨c, g, a, b, r1, r2, r3, z1, z2, z3, z4⟩, ⟨t1, t2, n, k, f, y1, y2, y3, y4⟩, ⟨n', m, P, W, X, K, k', f', w1, w2⟩, ⟨g', u1, u2, v1, v2, v3⟩, ⟨p1, p2, q1, q2, q3⟩⟩, c9⟩ := C
  have e : ∀ k, k < 45 ∨ 46 < k → h'.2 k = h.2 k := fun k z => F.2 k (by omega)
  obtain ⟨n1, n2, n3, n4⟩ := N
  exact ⟨(e _ (by omega)).trans c1, c2.ag (fun j hj => e j (by obtain ⟨z1, z2⟩ := hj; omega)), ⟨A, nx, c3.ag F.1 (fun k hk => e k (by omega))⟩, c4.ag (fun k hk => e k (by omega)), c5.ag (fun k hk => e k (by omega)), c6.ag (fun k hk => e k (by omega)), c7.ag (fun k hk => e k (by omega)), ⟨⟨c, g, a, b, r1, r2, r3, (e _ (by omega)).trans z1, (e _ (by omega)).trans z2, (e _ (by omega)).trans z3, (e _ (by omega)).trans z4⟩, ⟨t1, t2, n, k, f, (e _ (by omega)).trans y1, (e _ (by omega)).trans y2, (e _ (by omega)).trans y3, y4.ag (fun l h1 h2 => e l (by omega))⟩, ⟨n', m, P, W, X, K, k', f', w1.ag (fun l hl => e l (by obtain ⟨e1, e2⟩ := hl; omega)), w2⟩, ⟨g', u1, u2, (e _ (by omega)).trans v1, (e _ (by omega)).trans v2, (e _ (by omega)).trans v3⟩, ⟨n1, n2, (e _ (by omega)).trans q1, n3, n4⟩⟩, c9.ag (fun k hk => e k (by omega))⟩
theorem CI.lks (C : CI h s hist x flt) : ∃ r1 r2, h.2 44 = some (obj 1 [vr 45, vr 46]) ∧ h.2 45 = some (arr 0 12 r1) ∧ h.2 46 = some (arr 1 128 r2) := C.2.2.2.2.2.2.2.1.2.2.2.2
end
theorem both_third {h : Hp} (B : Both h) (a : Int) : ∃ r h1 h2, fX11_third 1 a h = some (r, h1) ∧ fX12_third 62 a h1 = some (r, h2) ∧ Both h2 := by
  obtain ⟨s, hist, x, flt, G, C, R⟩ := B
  have hn := G.1.2.1
  have hn1 := G.1.1
  obtain ⟨h1, e1, C1, F1⟩ := c_change C hn
  -- the class's order
  have L1 : ∃ Od, fX2_shuffle 44 a (sn s) h1 = some (hput h1 45 (arr 0 12 Od)) ∧ PM (sn s) Od ∧ ∀ F0, (∀ t, t < sn s → F0 t = (t : Int)) → Eqn (sn s) Od (shf (sn s - 1) a F0) := by
    obtain ⟨r1, r2, o, q1, q2⟩ := C1.lks
    have L : ∃ F, fX2_shuffle 44 a (sn s) h1 = fX2_shuffle_20 44 a (sn s) (hput h1 45 (arr 0 12 F)) ∧ ∀ t, t < sn s → F t = (t : Int) := by
      unfold fX2_shuffle
      have z := lp (fun N i (F : Nat → Int) => fX2_shuffle_2 N 44 a (sn s) i (hput h1 45 (arr 0 12 F))) (fun i F => ∀ t, t < i → F t = (t : Int)) (sn s) (fun r => ∃ F, r = fX2_shuffle_20 44 a (sn s) (hput h1 45 (arr 0 12 F)) ∧ ∀ t, t < sn s → F t = (t : Int)) ?_ ?_ FU 0 r1 (Nat.zero_le _) (FU_lt (by omega)) (fun t ht => by omega)
      · rw [show hput h1 45 (arr 0 12 r1) = h1 from hput_self q1] at z; exact z
      · intro N i F hi hF
        rw [fX2_shuffle_2, if_neg (by omega), gR 0 ((hput_ne (by omega)).trans o) rfl, ob, ast_of i hput_eq rfl (by omega), ob, hput_hput, c32_n (by omega) (by omega), ob]
        refine ⟨ups F i i, fun t ht => ?_, rfl⟩
        rw [ups_at]
        by_cases z : t = i
        · rw [if_pos z, z]
        · rw [if_neg z]; exact hF t (by omega)
      · intro N F hF
        rw [fX2_shuffle_2, if_pos (by omega)]
        exact ⟨F, rfl, hF⟩
    obtain ⟨F, e2, hF⟩ := L
    refine ⟨shf (sn s - 1) a F, ?_, shf_pm _ _ _ (by omega) hn (PM.id hF), fun F0 h0 => shf_congr _ _ _ _ (by omega) hn (fun t ht => (hF t ht).trans (h0 t ht).symm)⟩
    rw [e2, fX2_shuffle_20, c32_n (by omega) (by omega), ob, show (sn s : Int) - 1 = ((sn s - 1 : Nat) : Int) by omega, c_shuf o (sn s - 1) FU a F (by omega) (FU_lt (by omega))]
  obtain ⟨Od, e2, pm, sh⟩ := L1
  obtain ⟨r1, r2, o, q1, q2⟩ := C1.lks
  have C2 : CI (hput h1 45 (arr 0 12 Od)) s ((s :: hist).take 20) x 0 := C1.lik (Fr.rf.put (Or.inl rfl)) ⟨Od, r2, hput_eq, (hput_ne (by omega)).trans q2⟩
  obtain ⟨P, W, X, K, f, S, z1, z2, z3, z4, z5⟩ := C2.2.1
  have ho : ∀ i, i < sn s → Od i = (((Od i).toNat : Nat) : Int) ∧ (Od i).toNat < sn s := fun i hi => by
    obtain ⟨t, ht, et⟩ := pm.1 i hi
    omega
  have hsur : ∀ t, t < sn s → ∃ i, i < sn s ∧ (fun i => (Od i).toNat) i = t := fun t ht => by
    obtain ⟨i, hi, et⟩ := pm.2 t ht
    exact ⟨i, hi, by show (Od i).toNat = t; omega⟩
  obtain ⟨h3, g, e3, P3, N3, FA⟩ := c_gath S hn1 hn ((hput_ne (by omega)).trans o) hput_eq (ord := fun i => (Od i).toNat) ho hsur
  have C3 := C2.setp FA P3
  have hco := c_cost C3 (setf_good G.1 N3.1) 3 P3 N3.1
  have F3 : FC h h3 := F1.tr ((FC.put (q := 45) (by omega)).tr (FC.of FA (fun k hk => by omega)))
  obtain ⟨h4, h5, e4, R4, F4, e5, R5, F5⟩ := change2 G R F3
  -- the reference's order
  obtain ⟨t1, t2, t3, t4, t5, u1, u2, u3, u4, u5⟩ := R5.scr
  obtain ⟨pa, fp, sm, o5⟩ := R5.obj
  have L2 : ∃ F, fX12_third_11 FU 62 a 0 h5 = fX12_third_32 62 a (hput h5 80 (arr 0 12 F)) ∧ ∀ t, t < sn s → F t = (t : Int) := by
    have z := lp (fun N i (F : Nat → Int) => fX12_third_11 N 62 a i (hput h5 80 (arr 0 12 F))) (fun i F => ∀ t, t < i → F t = (t : Int)) (sn s) (fun r => ∃ F, r = fX12_third_32 62 a (hput h5 80 (arr 0 12 F)) ∧ ∀ t, t < sn s → F t = (t : Int)) ?_ ?_ FU 0 t5 (Nat.zero_le _) (FU_lt (by omega)) (fun t ht => by omega)
    · rw [show hput h5 80 (arr 0 12 t5) = h5 from hput_self u5] at z; exact z
    · intro N i F hi hF
      rw [fX12_third_11, (R5.pu (q := 80) (by omega) F).nb, if_neg (by show ¬ (sn s : Int) ≤ i; omega)]
      simp only []
      rw [gR 24 ((hput_ne (by omega)).trans o5) rfl, ob, ast_of i hput_eq rfl (by omega), ob, hput_hput, c32_n (by omega) (by omega), ob]
      refine ⟨ups F i i, fun t ht => ?_, rfl⟩
      rw [ups_at]
      by_cases z : t = i
      · rw [if_pos z, z]
      · rw [if_neg z]; exact hF t (by omega)
    · intro N F hF
      rw [fX12_third_11, (R5.pu (q := 80) (by omega) F).nb, if_pos (by show (sn s : Int) ≤ sn s; omega)]
      exact ⟨F, rfl, hF⟩
  obtain ⟨F, e6, hF⟩ := L2
  have R6 := R5.pu (q := 80) (by omega) (shf (sn s - 1) a F)
  have eo := sh F hF
  obtain ⟨h7, g', Fg, e7, m7, q7, N7, R7, Fr7⟩ := r_gath R6 G.1 rfl hput_eq (ord := fun i => (Od i).toNat) (fun i hi => by rw [← eo i hi]; exact ho i hi) hsur
  have ge := (gl_congr (ord := fun i => (Od i).toNat) (ord' := fun i => (Od i).toNat) hn z3 z4 (sn s) (Nat.le_refl _) (fun j hj => ⟨rfl, (ho j hj).2⟩)).2
  have eg : Eqn (sn s) g' g := RN.same N7 N3 (fun i j hi hj => by rw [ge i hi, ge j hj])
  obtain ⟨h8, e8, R8, Fr8⟩ := r_become R7 hn (hist12 G) (Or.inl rfl) m7 (fun j hj => (q7 j hj).trans (eg j hj))
  obtain ⟨pa6, fp6, sm6, o6⟩ := R6.obj
  obtain ⟨pa7, fp7, sm7, o7⟩ := R7.obj
  have o1 : (hput h1 45 (arr 0 12 Od)).2 44 = some (obj 1 [vr 45, vr 46]) := (hput_ne (by omega)).trans o
  refine ⟨cst (sn s) (sW s) (sX s) (sK s) 3 g, h3, h8, ?_, ?_, bo ⟨setf_good G.1 N3.1, take20_good G.1 G.2.1, G.2.2⟩ C3 (F5.tr ((FM.put (q := 80) (by omega)).tr ((FM.of Fr7 (fun k hk => by omega)).tr (FM.of Fr8 (fun k hk => by omega))))) R8⟩
  · unfold fX11_third
    rw [co C.1, ob, C.cr1, ob, e1, ob, gR 9 C1.1 rfl, ob, gR 0 C1.1 rfl, ob, gI 0 C1.now rfl, ob, co o, ob, e2, ob, gR 9 C2.1 rfl, ob, gR 0 C2.1 rfl, ob, co o1, ob, e3, ob, gR 0 C3.1 rfl, ob, ob, gR 5 C3.now rfl, ob]
    have hco' : fX0_ofParting 2 3 (2 + 5) h3 = some (cst (sn s) (sW s) (sX s) (sK s) 3 g, h3) := hco
    rw [hco', ob]
  · unfold fX12_third
    rw [e4, ob, R4.cb, ob, e5, ob, e6, fX12_third_32, (R5.pu (q := 80) (by omega) F).nb]
    simp only []
    rw [c32_n (by omega) (by omega), ob, show (sn s : Int) - 1 = ((sn s - 1 : Nat) : Int) by omega, r_shuf o5 (sn s - 1) FU a F (by omega) (FU_lt (by omega)), fX12_third_100, gR 24 o6 rfl, ob, R6.cb, ob, e7, ob, gR 20 o7 rfl, ob, R7.cb, ob, e8, ob, cst_congr hn (fun _ _ => rfl) (fun _ _ => rfl) (fun _ _ => rfl) eg 3]
