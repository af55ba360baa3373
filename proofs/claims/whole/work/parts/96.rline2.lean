section
variable {h : Hp} {s : Scn} {hist : List Scn} {x : Aux} {flt : Int}
theorem r_llab (R : RI h s hist x flt) (G : GSc s) {F : Nat → Int} (hF : PO (sn s) F) (e80 : h.2 80 = some (arr 0 12 F)) {M : Nat} (hM : M < 4096) (Kk : Nat → Int → Int → Int → Int → Hp → Option (Int × Hp)) (g k L : Int) : ∃ (h' : Hp) (f : Nat → Int), fX12_line_226 Kk FU 62 g k L M 0 0 h = fX12_line_280 Kk 62 g k L M h' ∧ h'.2 76 = some (arr 0 12 f) ∧ (∀ t, t < sn s → f t = lab (sn s) F M t) ∧ RI h' s hist x flt ∧ Fr (fun l => l = 76) h h' := by
  have hn := G.2.1
  obtain ⟨r1, r2, r3, r4, r5, s1, s2, s3, s4, s5⟩ := R.scr
  refine lp (fun N i (z : Int × Hp) => fX12_line_226 Kk N 62 g k L M z.1 i z.2) (fun i z => (i < sn s → z.1 = spn M i) ∧ 0 ≤ z.1 ∧ z.1 ≤ i ∧ ∃ f, z.2.2 76 = some (arr 0 12 f) ∧ (∀ j, j < i → f (F j).toNat = spn M j) ∧ RI z.2 s hist x flt ∧ Fr (fun l => l = 76) h z.2) (sn s) (fun r => ∃ (h' : Hp) (f : Nat → Int), r = fX12_line_280 Kk 62 g k L M h' ∧ h'.2 76 = some (arr 0 12 f) ∧ (∀ t, t < sn s → f t = lab (sn s) F M t) ∧ RI h' s hist x flt ∧ Fr (fun l => l = 76) h h') ?_ ?_ FU 0 (0, h) (Nat.zero_le _) (FU_lt (by omega)) ⟨fun _ => rfl, Int.le_refl _, Int.le_refl _, r1, s1, fun j hj => by omega, R, Fr.rf⟩
  · intro N i ⟨c, z⟩ hi ⟨h1, h2, h3, f, a1, a2, a3, a4⟩
    have h1 : c = spn M i := h1 hi
    have h2 : 0 ≤ c := h2
    have h3 : c ≤ i := h3
    have a1 : z.2 76 = some (arr 0 12 f) := a1
    have a3 : RI z s hist x flt := a3
    have a4 : Fr (fun l => l = 76) h z := a4
    obtain ⟨pa, fp, sm, o⟩ := a3.obj
    have fi := hF.1 i hi
    have inj : ∀ j, j < i → (F j).toNat ≠ (F i).toNat := fun j hj y => by
      have fj := hF.1 j (by omega)
      have := hF.2.2 j i (by omega) hi (by omega); omega
    have hw : ∀ j, j < i + 1 → ups f (F i).toNat c (F j).toNat = spn M j := by
      intro j hj
      rw [ups_at]
      by_cases w : j = i
      · subst w; rw [if_pos rfl]; exact h1
      · rw [if_neg (inj j (by omega))]; exact a2 j (by omega)
    have R2 := a3.pu (q := 76) (by omega) (ups f (F i).toNat c)
    have F2 : Fr (fun l => l = 76) h (hput z 76 (arr 0 12 (ups f (F i).toNat c))) := a4.put rfl
    show ∃ s' : Int × Hp, _ ∧ fX12_line_226 Kk (N + 1) 62 g k L M c i z = _
    rw [fX12_line_226, a3.nb, if_neg (by show ¬ (sn s : Int) ≤ i; omega)]
    simp only []
    rw [gR 20 o rfl, ob, gR 24 o rfl, ob, ald_of i ((a4.2 80 (by omega)).trans e80) rfl (by omega), ob, ast_of (F i).toNat a1 (by omega) (by omega), ob, R2.nb]
    simp only []
    rw [c32_n (by omega) (by omega), ob]
    by_cases w : i = sn s - 1
    · rw [if_pos (by omega), fX12_line_274, c32_n (by omega) (by omega), ob]
      exact ⟨(c, _), ⟨fun y => by omega, h2, by show c ≤ ((i + 1 : Nat) : Int); omega, _, hput_eq, hw, R2, F2⟩, rfl⟩
    · rw [if_neg (by omega), bit_has (by omega) (by omega)]
      by_cases y : M.testBit i = true
      · rw [if_pos y, if_pos rfl, c32_n (by omega) (by omega), ob, fX12_line_274, c32_n (by omega) (by omega), ob]
        refine ⟨(c + 1, _), ⟨fun _ => ?_, by show 0 ≤ c + 1; omega, by show c + 1 ≤ ((i + 1 : Nat) : Int); omega, _, hput_eq, hw, R2, F2⟩, rfl⟩
        show c + 1 = ((spn M (i + 1) : Nat) : Int)
        simp only [spn]; rw [if_pos y, h1]; rfl
      · rw [if_neg y, if_neg (by omega), fX12_line_274, c32_n (by omega) (by omega), ob]
        refine ⟨(c, _), ⟨fun _ => ?_, h2, by show c ≤ ((i + 1 : Nat) : Int); omega, _, hput_eq, hw, R2, F2⟩, rfl⟩
        show c = ((spn M (i + 1) : Nat) : Int)
        simp only [spn]; rw [if_neg y]; exact h1
  · intro N ⟨c, z⟩ ⟨h1, h2, h3, f, a1, a2, a3, a4⟩
    have a3 : RI z s hist x flt := a3
    show ∃ (h' : Hp) (f : Nat → Int), fX12_line_226 Kk (N + 1) 62 g k L M c (sn s) z = _ ∧ _
    rw [fX12_line_226, a3.nb, if_pos (by show (sn s : Int) ≤ sn s; omega)]
    refine ⟨z, f, rfl, a1, fun t ht => ?_, a3, a4⟩
    obtain ⟨j, hj, ej⟩ := hF.2.1 t ht
    rw [lab_at hF M hj ej, ← a2 j hj, ej]; rfl
theorem r_lcp (R : RI h s hist x flt) (hn : sn s ≤ 12) {F : Nat → Int} (e : h.2 76 = some (arr 0 12 F)) (K : Nat → Int → Int → Int → Int → Hp → Option (Int × Hp)) (g k M c : Int) : ∃ h' b, fX12_line_335 K 62 g k M c h = fX12_line_370 K 62 g k c M h' ∧ h'.2 77 = some (arr 0 12 b) ∧ Eqn (sn s) b F ∧ RI h' s hist x flt ∧ Fr (fun l => l = 77) h h' := by
  obtain ⟨r1, r2, r3, r4, r5, s1, s2, s3, s4, s5⟩ := R.scr
  unfold fX12_line_335
  refine lp (fun N i (g' : Hp) => fX12_line_341 K N 62 g k c M i g') (fun i g' => ∃ b, g'.2 77 = some (arr 0 12 b) ∧ Eqn i b F ∧ RI g' s hist x flt ∧ Fr (fun l => l = 77) h g') (sn s) (fun r => ∃ h' b, r = fX12_line_370 K 62 g k c M h' ∧ h'.2 77 = some (arr 0 12 b) ∧ Eqn (sn s) b F ∧ RI h' s hist x flt ∧ Fr (fun l => l = 77) h h') ?_ ?_ FU 0 h (Nat.zero_le _) (FU_lt (by omega)) ⟨r2, s2, fun j hj => by omega, R, Fr.rf⟩
  · intro N i g' hi ⟨b, a1, a2, a3, a5⟩
    obtain ⟨pa, fp, sm, o⟩ := a3.obj
    rw [fX12_line_341, a3.nb, if_neg (by show ¬ (sn s : Int) ≤ i; omega)]
    simp only []
    rw [gR 21 o rfl, ob, gR 20 o rfl, ob, ald_of i ((a5.2 76 (by omega)).trans e) rfl (by omega), ob, ast_of i a1 rfl (by omega), ob, c32_n (by omega) (by omega), ob]
    refine ⟨_, ⟨_, hput_eq, fun j hj => ?_, a3.pu (by omega) _, a5.put rfl⟩, rfl⟩
    rw [ups_at]
    by_cases z : j = i
    · rw [if_pos z, z]
    · rw [if_neg z]; exact a2 j (by omega)
  · intro N g' ⟨b, a1, a2, a3, a5⟩
    rw [fX12_line_341, a3.nb, if_pos (by show (sn s : Int) ≤ sn s; omega)]
    exact ⟨g', b, rfl, a1, a2, a3, a5⟩
set_option maxHeartbeats 4000000 in
theorem r_line (R : RI h s hist x flt) (G : GSc s) {g : Int} (hg : 0 ≤ g ∧ g ≤ 2) {k : Nat} (hk1 : 1 ≤ k) (hk : k ≤ sn s) {U F : Nat → Int} (u : h.2 79 = some (arr 0 144 U)) (hU : ∀ a b, a < sn s → b < sn s → U (12 * a + b) = fl (sP s) a b) (hF : PO (sn s) F) (e80 : h.2 80 = some (arr 0 12 F)) :
    ∃ (h' : Hp) (L : Int) (b : Nat → Int), fX12_line_186 62 g k h = fX12_line_376 62 L h' ∧ h'.2 77 = some (arr 0 12 b) ∧ LB (sn s) (fun M => bcv (M : Int) = some ((k : Int) - 1)) (lab (sn s) F) (Clb (sn s) U (fun _ => 0) (fun _ => 0) g F) (-1) (2 ^ (sn s - 1)) L b ∧ RI h' s hist x flt ∧ Fr (fun l => 76 ≤ l ∧ l ≤ 78) h h' := by
  have hn := G.2.1
  have hn1 := G.1
  obtain ⟨r1, r2, r3, r4, r5, s1, s2, s3, s4, s5⟩ := R.scr
  have wU : WokN (sn s) U := fun a b ha hb => by rw [hU a b ha hb]; have := fl_bd G.2.2.1 (a := a) (b := b) (by omega) (by omega); omega
  have hS : Sym (sn s) U := fun a b ha hb => by rw [hU a b ha hb, hU b a hb ha, fl_sym]
  have h2p : 2 ^ (sn s - 1) ≤ 2 ^ 11 := Nat.pow_le_pow_right (by decide) (by omega)
  have e2n : bShl 1 ((sn s : Int) - 1) = ((2 ^ (sn s - 1) : Nat) : Int) := by
    rw [show (sn s : Int) - 1 = ((sn s - 1 : Nat) : Int) by omega, bShl_1 _ (by omega)]
  obtain ⟨U', wU', eU'⟩ := wU.cut hn
  have cnn : ∀ M b, RN (sn s) (lab (sn s) F M) b → 0 ≤ Clb (sn s) U (fun _ => 0) (fun _ => 0) g F M := fun M b hb => by
    have e : Clb (sn s) U (fun _ => 0) (fun _ => 0) g F M = Clb (sn s) U' (fun _ => 0) (fun _ => 0) g F M := cfold_congr (fun u _ => hco_cn eU' (by omega) (by omega))
    rw [e, ← Clb_cst (by omega) hn1 hn hF M hb]
    exact cst_nn hn wU' (fun i _ => ⟨⟨by show (0 : Int) ≤ 0; omega, by show (0 : Int) ≤ 1000; omega⟩, Or.inl rfl⟩) (fun _ _ _ _ => rfl) (fun _ _ _ _ => rfl) (by omega) hb.1
  unfold fX12_line_186
  refine lp (fun N M (z : Int × Hp) => fX12_line_193 N 62 g k z.1 M z.2) (fun M z => ∃ b, z.2.2 77 = some (arr 0 12 b) ∧ (z.1 = -1 ∨ 0 ≤ z.1) ∧ LB (sn s) (fun M => bcv (M : Int) = some ((k : Int) - 1)) (lab (sn s) F) (Clb (sn s) U (fun _ => 0) (fun _ => 0) g F) (-1) M z.1 b ∧ RI z.2 s hist x flt ∧ Fr (fun l => 76 ≤ l ∧ l ≤ 78) h z.2) (2 ^ (sn s - 1)) (fun r => ∃ (h' : Hp) (L : Int) (b : Nat → Int), r = fX12_line_376 62 L h' ∧ h'.2 77 = some (arr 0 12 b) ∧ LB (sn s) (fun M => bcv (M : Int) = some ((k : Int) - 1)) (lab (sn s) F) (Clb (sn s) U (fun _ => 0) (fun _ => 0) g F) (-1) (2 ^ (sn s - 1)) L b ∧ RI h' s hist x flt ∧ Fr (fun l => 76 ≤ l ∧ l ≤ 78) h h') ?_ ?_ FU 0 (-1, h) (Nat.zero_le _) (FU_lt (by omega)) ⟨r2, s2, Or.inl rfl, Or.inl ⟨rfl, fun M hM => by omega⟩, R, Fr.rf⟩
  · intro N M ⟨L, z⟩ hM ⟨b, a1, a2, a3, a4, a5⟩
    have a1 : z.2 77 = some (arr 0 12 b) := a1
    have a2 : L = -1 ∨ 0 ≤ L := a2
    have a3 : LB (sn s) (fun M => bcv (M : Int) = some ((k : Int) - 1)) (lab (sn s) F) (Clb (sn s) U (fun _ => 0) (fun _ => 0) g F) (-1) M L b := a3
    have a4 : RI z s hist x flt := a4
    have a5 : Fr (fun l => 76 ≤ l ∧ l ≤ 78) h z := a5
    obtain ⟨c, hc1, hc2⟩ := bc_ok (M := M) (by omega)
    show ∃ s' : Int × Hp, _ ∧ fX12_line_193 (N + 1) 62 g k L M z = _
    rw [fX12_line_193, a4.nb]
    simp only []
    rw [e2n, if_neg (by omega), hc2, ob, c32_n (by omega) (by omega), ob]
    simp only []
    by_cases hv : c = (k : Int) - 1
    · have hV : bcv (M : Int) = some ((k : Int) - 1) := by rw [hc1, hv]
      rw [if_pos hv]
      obtain ⟨z1, f, e1, f1, f2, R1, F1⟩ := r_llab a4 G hF ((a5.2 80 (by omega)).trans e80) (M := M) (by omega) (fX12_line_193 N) g k L
      obtain ⟨z2, gn, Fn, e2, m2, q2, n2, R2, F2⟩ := r_number R1 hn f1
      have hN : RN (sn s) (lab (sn s) F M) Fn := ⟨n2.1.congr (fun i hi => (q2 i hi).symm), fun i j hi hj => by rw [q2 i hi, q2 j hj, n2.2 i j hi hj, f2 i hi, f2 j hj]⟩
      have u2 : z2.2 79 = some (arr 0 144 U) := (F2.2 79 (by omega)).trans ((F1.2 79 (by omega)).trans ((a5.2 79 (by omega)).trans u))
      have b2 : z2.2 77 = some (arr 0 12 b) := (F2.2 77 (by omega)).trans ((F1.2 77 (by omega)).trans a1)
      have ec := r_costOfn R2 G m2 hn u2 wU hS hN.1 (g := g) (by omega)
      have ee : cst (sn s) U (sX s) (sK s) g Fn = Clb (sn s) U (fun _ => 0) (fun _ => 0) g F M := by
        rw [Clb_cst (by omega) hn1 hn hF M hN]
        exact cfold_congr (fun u _ => hco_cn (fun _ _ _ _ => rfl) (by omega) (by omega))
      rw [ee] at ec
      have c0 := cnn M Fn hN
      obtain ⟨ad1, ad2⟩ := a3.add hV hN (by omega)
      obtain ⟨pa1, fp1, sm1, o1⟩ := R1.obj
      obtain ⟨pa2, fp2, sm2, o2⟩ := R2.obj
      have FA : Fr (fun l => 76 ≤ l ∧ l ≤ 78) h z2 := a5.tr ((F1.mono (fun l hl => by omega)).tr (F2.mono (fun l hl => by omega)))
      have take : (L = -1 ∨ Clb (sn s) U (fun _ => 0) (fun _ => 0) g F M < L ∨ (Clb (sn s) U (fun _ => 0) (fun _ => 0) g F M = L ∧ ahead (sn s) Fn b)) → ∃ s' : Int × Hp, (∃ b, s'.2.2 77 = some (arr 0 12 b) ∧ (s'.1 = -1 ∨ 0 ≤ s'.1) ∧ LB (sn s) (fun M => bcv (M : Int) = some ((k : Int) - 1)) (lab (sn s) F) (Clb (sn s) U (fun _ => 0) (fun _ => 0) g F) (-1) (M + 1) s'.1 b ∧ RI s'.2 s hist x flt ∧ Fr (fun l => 76 ≤ l ∧ l ≤ 78) h s'.2) ∧ fX12_line_335 (fX12_line_193 N) 62 g k M (Clb (sn s) U (fun _ => 0) (fun _ => 0) g F M) z2 = fX12_line_193 N 62 g k s'.1 ((M + 1 : Nat) : Int) s'.2 := by
        intro hlt
        obtain ⟨z3, b3, e3, w1, w2, w3, w4⟩ := r_lcp R2 hn m2 (fX12_line_193 N) g k M (Clb (sn s) U (fun _ => 0) (fun _ => 0) g F M)
        refine ⟨(Clb (sn s) U (fun _ => 0) (fun _ => 0) g F M, z3), ⟨b3, w1, Or.inr c0, ad1 hlt b3 w2, w3, FA.tr (w4.mono (fun l hl => by omega))⟩, ?_⟩
        rw [e3, fX12_line_370, c32_n (by omega) (by omega), ob]; rfl
      have skip : L ≠ -1 → (L < Clb (sn s) U (fun _ => 0) (fun _ => 0) g F M ∨ (Clb (sn s) U (fun _ => 0) (fun _ => 0) g F M = L ∧ ¬ ahead (sn s) Fn b)) → ∃ s' : Int × Hp, (∃ b, s'.2.2 77 = some (arr 0 12 b) ∧ (s'.1 = -1 ∨ 0 ≤ s'.1) ∧ LB (sn s) (fun M => bcv (M : Int) = some ((k : Int) - 1)) (lab (sn s) F) (Clb (sn s) U (fun _ => 0) (fun _ => 0) g F) (-1) (M + 1) s'.1 b ∧ RI s'.2 s hist x flt ∧ Fr (fun l => 76 ≤ l ∧ l ≤ 78) h s'.2) ∧ fX12_line_370 (fX12_line_193 N) 62 g k L M z2 = fX12_line_193 N 62 g k s'.1 ((M + 1 : Nat) : Int) s'.2 := by
        intro h0 hlt
        refine ⟨(L, z2), ⟨b, b2, a2, ad2 h0 hlt, R2, FA⟩, ?_⟩
        rw [fX12_line_370, c32_n (by omega) (by omega), ob]; rfl
      rw [e1, fX12_line_280, gR 20 o1 rfl, ob, R1.cb, ob, e2, ob]
      simp only []
      rw [gR 20 o2 rfl, ob, R2.cb, ob, ec, ob]
      simp only []
      by_cases c1 : L < 0
      · rw [if_pos ((lCmp_lt _ _).mpr c1)]; exact take (Or.inl (a2.resolve_right (fun w => absurd c1 (Int.not_lt.mpr w))))
      · rw [if_neg (fun w => c1 ((lCmp_lt _ _).mp w))]
        by_cases c2 : Clb (sn s) U (fun _ => 0) (fun _ => 0) g F M < L
        · rw [if_pos ((lCmp_lt _ _).mpr c2)]; exact take (Or.inr (Or.inl c2))
        · rw [if_neg (fun w => c2 ((lCmp_lt _ _).mp w))]
          by_cases c3 : Clb (sn s) U (fun _ => 0) (fun _ => 0) g F M = L
          · obtain ⟨rr, e6, h6⟩ := r_isAhead R2 hn m2 b2
            rw [if_pos ((lCmp_eq _ _).mpr c3), gR 20 o2 rfl, ob, gR 21 o2 rfl, ob, R2.cb, ob, e6, ob]
            rcases h6 with ⟨w1, w2⟩ | ⟨w1, w2⟩
            · rw [w1, if_neg one0]; exact take (Or.inr (Or.inr ⟨c3, w2⟩))
            · rw [w1, if_pos rfl]; exact skip (by omega) (Or.inr ⟨c3, w2⟩)
          · rw [if_neg (fun w => c3 ((lCmp_eq _ _).mp w))]
            exact skip (by omega) (Or.inl (by omega))
    · rw [if_neg hv, fX12_line_370, c32_n (by omega) (by omega), ob]
      exact ⟨(L, z), ⟨b, a1, a2, a3.skip (by rw [hc1]; intro w; injection w with w; exact hv w), a4, a5⟩, rfl⟩
  · intro N ⟨L, z⟩ ⟨b, a1, a2, a3, a4, a5⟩
    have a4 : RI z s hist x flt := a4
    show ∃ (h' : Hp) (L' : Int) (b' : Nat → Int), fX12_line_193 (N + 1) 62 g k L ((2 ^ (sn s - 1) : Nat) : Int) z = _ ∧ _
    rw [fX12_line_193, a4.nb]
    simp only []
    rw [e2n, if_pos (by omega)]
    exact ⟨z, L, b, rfl, a1, a3, a4, a5⟩
end
theorem posOf_congr {F F' : Nat → Int} {n : Nat} (e : Eqn n F F') (t : Nat) : ∀ m, m ≤ n → posOf F t m = posOf F' t m := by
  intro m
  induction m with
  | zero => intro _; rfl
  | succ m ih => intro hm; simp only [posOf]; rw [e m (by omega), ih (by omega)]
theorem lab_congr {F F' : Nat → Int} {n : Nat} (e : Eqn n F F') : lab n F = lab n F' := by
  funext M t; unfold lab; rw [posOf_congr e t n (Nat.le_refl _)]
theorem both_line {h : Hp} (B : Both h) (g k : Int) : ∃ r h1 h2, fX11_line 1 g k h = some (r, h1) ∧ fX12_line 62 g k h1 = some (r, h2) ∧ Both h2 := by
  obtain ⟨s, hist, x, flt, G, C, R⟩ := B
  have hn := G.1.2.1
  have hn1 := G.1.1
  have ref : ∀ z : Int, ∃ h2 h3, ((cob h 10 1).bind fun _ => (fX11_refuse 1 z h).bind fun p2 => some (p2.1, p2.2)) = some (-1, hput h 1 (BO z)) ∧ putV (hput h 1 (BO z)) 11 62 19 (vi 0) = some h2 ∧ RI h2 s hist x 0 ∧ ((cob h2 11 62).bind fun _ => (fX12_no 62 z h2).bind fun p2 => some (p2.1, p2.2)) = some (-1, h3) ∧ Both h3 := by
    intro z
    obtain ⟨h2, h3, e2, R2, e3, B3⟩ := refuse2 G C R z
    exact ⟨h2, h3, by rw [co C.1, ob, c_refuse C z, ob], e2, R2, by rw [R2.cb, ob, e3, ob], B3⟩
  obtain ⟨P0, W0, X0, K0, f0, S0, -⟩ := C.2.1
  unfold fX11_line fX12_line
  simp only [fX11_line_25, fX12_line_27]
  by_cases c1 : g < 0
  · obtain ⟨h2, h3, r1, r2, R2, r3, r4⟩ := ref 1
    refine ⟨-1, hput h 1 (BO 1), h3, ?_, ?_, r4⟩
    · rw [if_pos c1]; exact r1
    · rw [r2, ob, if_pos c1]; exact r3
  by_cases c2 : 2 < g
  · obtain ⟨h2, h3, r1, r2, R2, r3, r4⟩ := ref 1
    refine ⟨-1, hput h 1 (BO 1), h3, ?_, ?_, r4⟩
    · rw [if_neg c1, if_pos c2]; exact r1
    · rw [r2, ob, if_neg c1, if_pos c2]; exact r3
  by_cases c3 : k < 1
  · obtain ⟨h2, h3, r1, r2, R2, r3, r4⟩ := ref 1
    refine ⟨-1, hput h 1 (BO 1), h3, ?_, ?_, r4⟩
    · rw [if_neg c1, if_neg c2, if_pos c3]; exact r1
    · rw [r2, ob, if_neg c1, if_neg c2, if_pos c3]; exact r3
  by_cases c4 : k ≤ sn s
  · obtain ⟨kk, rfl⟩ := Int.eq_ofNat_of_zero_le (show 0 ≤ k by omega)
    have c4' : kk ≤ sn s := Int.ofNat_le.mp c4
    have c3' : 1 ≤ kk := by omega
    obtain ⟨h1, e1, C1, F1⟩ := c_change C hn
    obtain ⟨h2, L, b, F, U, e2, C2, hF', hF, hU, B2, hr2, F2⟩ := c_line C1 G.1 (g := g) ⟨by omega, by omega⟩ c3' c4'
    obtain ⟨h3, h4, e3, R3, F4, e4, R4, F5⟩ := change2 G R (F1.tr F2)
    obtain ⟨h5, U5, e5, u5, q5, R5, Fr5⟩ := r_lflat R4 G.1 g kk
    obtain ⟨r5, w5, e6⟩ := r_lsort R5 G.1 g kk
    have R6 := R5.pu (q := 80) (by omega) (srt (sP s) r5 (sn s))
    obtain ⟨h7, L', b', e7, m7, B7, R7, Fr7⟩ := r_line R6 G.1 (g := g) ⟨by omega, by omega⟩ c3' c4' (U := U5) ((hput_ne (by omega)).trans u5) q5 (srt_po (sn s)) hput_eq
    have eF := hF' r5
    have eL := lab_congr eF
    have eC : Clb (sn s) U5 (fun _ => 0) (fun _ => 0) g (srt (sP s) r5 (sn s)) = Clb (sn s) U (fun _ => 0) (fun _ => 0) g F := by
      funext M
      unfold Clb
      rw [eL]
      exact cfold_congr (fun u _ => hco_cn (fun a c ha hc => by rw [q5 a c ha hc, hU a c ha hc]) (by omega) (by omega))
    rw [eC, ← eL] at B7
    have hV : ∃ M : Nat, M < 2 ^ (sn s - 1) ∧ bcv ((M : Nat) : Int) = some ((kk : Int) - 1) := by
      refine ⟨2 ^ (kk - 1) - 1, ?_, ?_⟩
      · have h1 : 2 ^ (kk - 1) ≤ 2 ^ (sn s - 1) := Nat.pow_le_pow_right (by decide) (by omega)
        have h2 : 1 ≤ 2 ^ (kk - 1) := Nat.one_le_two_pow
        omega
      · rw [bcv_low (kk - 1) (by omega)]; congr 1; omega
    obtain ⟨eq, eb, -⟩ := B2.uq hV B7
    obtain ⟨h8, e8, R8, Fr8⟩ := r_become R7 hn (hist12 G) (Or.inr rfl) m7 (fun i hi => (eb i hi).symm)
    obtain ⟨pa7, fp7, sm7, o7⟩ := R7.obj
    obtain ⟨-, ⟨t1, t2, nt, kt, ft, y1, -⟩, -⟩ := C1.2.2.2.2.2.2.2.1
    refine ⟨L, h2, h8, ?_, ?_, bo (show Good (setf s b) ((s :: hist).take 20) x from ⟨setf_good G.1 hr2, take20_good G.1 G.2.1, G.2.2⟩) C2 (F5.tr ((FM.of Fr5 (fun k hk => by omega)).tr ((FM.of (Fr.rf.put (q := 80) (S := fun l => l = 80) rfl) (fun k hk => by omega)).tr ((FM.of Fr7 (fun k hk => by omega)).tr (FM.of Fr8 (fun k hk => by omega)))))) R8⟩
    · rw [if_neg c1, if_neg c2, if_neg c3, gR 0 C.1 rfl, ob, gI 0 S0.1 rfl, ob, if_pos c4, co C.1, ob, C.cr1, ob, e1, ob, gR 7 C1.1 rfl, ob, gR 0 C1.1 rfl, ob, co y1, ob, e2, ob]
    · rw [e3, ob, if_neg c1, if_neg c2, if_neg c3, R3.nb, if_pos c4]
      simp only []
      rw [R3.cb, ob, e4, ob, e5, e6, e7, fX12_line_376, gR 21 o7 rfl, ob, R7.cb, ob, e8, ob, eq]
  · obtain ⟨h2, h3, r1, r2, R2, r3, r4⟩ := ref 1
    refine ⟨-1, hput h 1 (BO 1), h3, ?_, ?_, r4⟩
    · rw [if_neg c1, if_neg c2, if_neg c3, gR 0 C.1 rfl, ob, gI 0 S0.1 rfl, ob, if_neg c4]; exact r1
    · rw [r2, ob, if_neg c1, if_neg c2, if_neg c3, R2.nb, if_neg c4]; exact r3
