theorem CI.any {h h' : Hp} {s : Scn} {hist : List Scn} {x : Aux} {flt : Int} {P W X K b : Nat → Int} (C : CI h s hist x flt) (F : Fr (fun k => (7 ≤ k ∧ k ≤ 9) ∨ (23 ≤ k ∧ k ≤ 46)) h h') (S : isSc h' 2 (sn s) P W X K (mx b (sn s)) b) (z1 : Eqn 48 P (sP s)) (z2 : Eqn 144 W (sW s)) (z3 : Eqn 144 X (sX s)) (z4 : Eqn 144 K (sK s)) (N : CScr h') : CI h' (setf s b) hist x flt := by
  obtain ⟨c1, c2, ⟨A, nx, c3⟩, c4, c5, c6, c7, c8, c9⟩ := C
  have e : ∀ k, k < 7 ∨ (9 < k ∧ k < 23) ∨ 46 < k → h'.2 k = h.2 k := fun k z => F.2 k (by omega)
  exact ⟨(e _ (by omega)).trans c1, ⟨P, W, X, K, b, S, z1, z2, z3, z4, fun _ _ => rfl⟩, ⟨A, nx, c3.ag F.1 (fun k hk => e k (by omega))⟩, c4.ag (fun k hk => e k (by omega)), c5.ag (fun k hk => e k (by omega)), c6.ag (fun k hk => e k (by omega)), c7.ag (fun k hk => e k (by omega)), N, c9.ag (fun k hk => e k (by omega))⟩
theorem partBy_ok {h : Hp} {n : Nat} {m0 kf kt : Int} {Pf Wf Xf Kf ff ft : Nat → Int} (S3 : isSq h 33 n m0 Pf Wf Xf Kf kf ff) (hn1 : 1 ≤ n) (hn : n ≤ 12) (o : h.2 27 = some LO) {F : Nat → Int} (e28 : h.2 28 = some (arr 0 12 F)) (hF : PO n F) (T : isPt h 30 n kt ft) {M : Nat} (hM : M < 4096) : ∃ (h' : Hp) (g : Nat → Int), fX3_partBy 27 M h = some h' ∧ isPt h' 30 n (mx g n) g ∧ RN n (lab n F M) g ∧ Fr (pts 30) h h' := by
  have o' : ∀ f, (hput h 31 (arr 0 12 f)).2 27 = some LO := fun f => (hput_ne (by omega)).trans o
  have S' : ∀ f, isSq (hput h 31 (arr 0 12 f)) 33 n m0 Pf Wf Xf Kf kf ff := fun f => isSq.ag S3 (fun l hl => by obtain ⟨q1, q2⟩ := hl; exact hput_ne (by omega))
  have e8 : ∀ f, (hput h 31 (arr 0 12 f)).2 28 = some (arr 0 12 F) := fun f => (hput_ne (by omega)).trans e28
  have T' : ∀ f, isPt (hput h 31 (arr 0 12 f)) 30 n kt f := fun f => T.row f
  unfold fX3_partBy
  have z := lp (fun N i (z : Int × (Nat → Int)) => fX3_partBy_4 N 27 M z.1 i (hput h 31 (arr 0 12 z.2))) (fun i z => (i < n → z.1 = spn M i) ∧ 0 ≤ z.1 ∧ z.1 ≤ i ∧ ∀ j, j < i → z.2 (F j).toNat = spn M j) n (fun r => ∃ (h' : Hp) (g : Nat → Int), r = some h' ∧ isPt h' 30 n (mx g n) g ∧ RN n (lab n F M) g ∧ Fr (pts 30) h h') ?_ ?_ FU 0 (0, ft) (Nat.zero_le _) (FU_lt (by omega)) ⟨fun _ => rfl, Int.le_refl _, Int.le_refl _, fun j hj => by omega⟩
  · have z : ∃ (h' : Hp) (g : Nat → Int), fX3_partBy_4 FU 27 M 0 ((0 : Nat) : Int) (hput h 31 (arr 0 12 ft)) = some h' ∧ isPt h' 30 n (mx g n) g ∧ RN n (lab n F M) g ∧ Fr (pts 30) h h' := z
    rw [show hput h 31 (arr 0 12 ft) = h from hput_self T.2.1] at z; exact z
  · intro N i ⟨c, f⟩ hi ⟨h1, h2, h3, h4⟩
    have h1 : c = spn M i := h1 hi
    have h3 : c ≤ i := h3
    have h4 : ∀ j, j < i → f (F j).toNat = spn M j := h4
    have fi := hF.1 i hi
    have ends := endsAt_ok (S' (ups f (F i).toNat c)) hn1 hn (o' _) hM hi
    have inj : ∀ j, j < i → (F j).toNat ≠ (F i).toNat := fun j hj y => by
      have fj := hF.1 j (by omega)
      have := hF.2.2 j i (by omega) hi (by omega); omega
    have hw : ∀ j, j < i + 1 → ups f (F i).toNat c (F j).toNat = spn M j := by
      intro j hj
      rw [ups_at]
      by_cases w : j = i
      · subst w; rw [if_pos rfl]; exact h1
      · rw [if_neg (inj j (by omega))]; exact h4 j (by omega)
    show ∃ s' : Int × (Nat → Int), _ ∧ fX3_partBy_4 (N + 1) 27 M c i (hput h 31 (arr 0 12 f)) = _
    rw [fX3_partBy_4, gR 3 (o' f) rfl, ob, gI 0 (S' f).1 rfl, ob, if_neg (by omega), gR 2 (o' f) rfl, ob, gR 2 (T' f).1 rfl, ob, gR 0 (o' f) rfl, ob, ald_of i (e8 f) rfl (by omega), ob, ast_of (F i).toNat (T' f).2.1 (by omega) (by omega), ob, hput_hput, co (o' _), ob, ends, ob]
    by_cases w : i = n - 1 ∨ M.testBit i = true
    · rw [if_pos w, if_neg one0, fX3_partBy_45, c32_n (by omega) (by omega), ob]
      simp only []
      rw [c32_n (by omega) (by omega), ob]
      refine ⟨(c + 1, ups f (F i).toNat c), ⟨fun hin => ?_, by show 0 ≤ c + 1; omega, by show c + 1 ≤ ((i + 1 : Nat) : Int); omega, hw⟩, rfl⟩
      have y : M.testBit i = true := w.resolve_left (by omega)
      show c + 1 = ((spn M (i + 1) : Nat) : Int)
      simp only [spn]; rw [if_pos y, h1]; rfl
    · rw [if_neg w, if_pos rfl, fX3_partBy_45, c32_n (by omega) (by omega), ob]
      simp only []
      rw [c32_n (by omega) (by omega), ob, Int.add_zero]
      refine ⟨(c, ups f (F i).toNat c), ⟨fun hin => ?_, h2, by show c ≤ ((i + 1 : Nat) : Int); omega, hw⟩, rfl⟩
      have y : ¬ M.testBit i = true := fun v => w (Or.inr v)
      show c = ((spn M (i + 1) : Nat) : Int)
      simp only [spn]; rw [if_neg y]; exact h1
  · intro N ⟨c, f⟩ ⟨h1, h2, h3, h4⟩
    have h4 : ∀ j, j < n → f (F j).toNat = spn M j := h4
    have ef : ∀ t, t < n → f t = lab n F M t := by
      intro t ht
      obtain ⟨j, hj, ej⟩ := hF.2.1 t ht
      rw [lab_at hF M hj ej, ← h4 j hj, ej]; rfl
    obtain ⟨h', g, e3, P3, N3, F3⟩ := renumber_ok hn (T' f) (fun i hi => by
      rw [ef i hi]
      have := lab_in hF hn1 M hi; have := sp_le M (n - 1); omega)
    show ∃ (h' : Hp) (g : Nat → Int), fX3_partBy_4 (N + 1) 27 M c n (hput h 31 (arr 0 12 f)) = some h' ∧ _
    rw [fX3_partBy_4, gR 3 (o' f) rfl, ob, gI 0 (S' f).1 rfl, ob, if_pos (by omega), fX3_partBy_53, gR 2 (o' f) rfl, ob, co (T' f).1, ob, e3, ob]
    exact ⟨h', g, rfl, P3, ⟨N3.1, fun i j hi hj => by rw [N3.2 i j hi hj, ef i hi, ef j hj]⟩, (Fr.rf.put (Or.inr (Or.inl rfl))).tr F3⟩
set_option maxHeartbeats 4000000 in
theorem c_line {h : Hp} {s : Scn} {hist : List Scn} {x : Aux} {flt : Int} (C : CI h s hist x flt) (G : GSc s) {g : Int} (hg : 0 ≤ g ∧ g ≤ 2) {k : Nat} (hk1 : 1 ≤ k) (hk : k ≤ sn s) :
    ∃ (h' : Hp) (L : Int) (b F U : Nat → Int), fX3_run 27 2 g k h = some (L, h') ∧ CI h' (setf s b) hist x flt ∧ (∀ F', Eqn (sn s) F (srt (sP s) F' (sn s))) ∧ PO (sn s) F ∧ (∀ a c, a < sn s → c < sn s → U (12 * a + c) = fl (sP s) a c) ∧ LB (sn s) (fun M => bcv (M : Int) = some ((k : Int) - 1)) (lab (sn s) F) (Clb (sn s) U (fun _ => 0) (fun _ => 0) g F) MXL (2 ^ (sn s - 1)) L b ∧ RGS (sn s) b ∧ FC h h' := by
  have hn := G.2.1
  have hn1 := G.1
  obtain ⟨P, W, X, K, f, S, z1, z2, z3, z4, z5⟩ := C.2.1
  have hP : ∀ i, i < 48 → -1000 ≤ P i ∧ P i ≤ 1000 := fun i hi => by rw [z1 i hi]; exact G.2.2.1 i hi
  obtain ⟨⟨qc, qg, qa, qb, q1, q2, q3, qz1, qz2, qz3, qz4⟩, ⟨t1, t2, nt, kt, ft, y1, y2, y3, y4⟩, ⟨n0, m0, Pf, Wf, Xf, Kf, kf, ff, w1, w2⟩, hmv, hlk⟩ := id C.2.2.2.2.2.2.2.1
  obtain ⟨h1, Wl, e1, S3, hFl, hfl, F1⟩ := c_flatten S hn1 hn hP y1 w1 w2
  have S1 : isSc h1 2 (sn s) P W X K (mx (sf s) (sn s)) f := isSq.ag S (fun l hl => by obtain ⟨u1, u2⟩ := hl; exact F1.2 l (by omega))
  have o1 : h1.2 27 = some LO := (F1.2 27 (by omega)).trans y1
  have e28 : h1.2 28 = some (arr 0 12 t1) := (F1.2 28 (by omega)).trans y2
  have es := sortc S1 hn o1 e28
  obtain ⟨F, hFd⟩ : ∃ F, F = srt P t1 (sn s) := ⟨_, rfl⟩
  have hF : PO (sn s) F := by rw [hFd]; exact srt_po _
  rw [← hFd] at es
  have hWl : Wok Wl := hFl.1
  have hXl : Xok Xf Kf := fun i hi => by have := hFl.2.2 i hi; rw [this.1, this.2]; exact ⟨⟨by omega, by omega⟩, Or.inl rfl⟩
  have S3b : isSq (hput h1 28 (arr 0 12 F)) 33 (sn s) m0 Pf Wl Xf Kf kf ff := isSq.ag S3 (fun l hl => by obtain ⟨u1, u2⟩ := hl; exact hput_ne (by omega))
  obtain ⟨r, er, hr⟩ := spans_ok S3b hn1 hn hWl hXl ((hput_ne (by omega)).trans o1) hput_eq hF (r := t2) ((hput_ne (by omega)).trans ((F1.2 29 (by omega)).trans y3)) g
  -- the state as the search begins
  obtain ⟨p0, p1, gg, p2⟩ := y4
  have eU : ∀ M, Clb (sn s) Wl Xf Kf g F M = Clb (sn s) Wl (fun _ => 0) (fun _ => 0) g F M := fun M => cfold_congr (fun u _ => hco_cn (fun _ _ _ _ => rfl) (by omega) (by omega))
  obtain ⟨h2, hh2⟩ : ∃ h2, h2 = hput (hput (hput h1 28 (arr 0 12 F)) 29 (arr 1 144 r)) 30 (obj 5 [vi (sn s), vi kt, vr 31, vr 32]) := ⟨_, rfl⟩
  have k2 : ∀ l, l ≠ 28 → l ≠ 29 → l ≠ 30 → h2.2 l = h1.2 l := fun l a b c => by rw [hh2]; exact (hput_ne c).trans ((hput_ne b).trans (hput_ne a))
  have o2 : h2.2 27 = some LO := (k2 27 (by omega) (by omega) (by omega)).trans o1
  have f28 : h2.2 28 = some (arr 0 12 F) := by rw [hh2]; exact (hput_ne (by omega)).trans ((hput_ne (by omega)).trans hput_eq)
  have f29 : h2.2 29 = some (arr 1 144 r) := by rw [hh2]; exact (hput_ne (by omega)).trans hput_eq
  have T2 : isPt h2 30 (sn s) kt ft := ⟨by rw [hh2]; exact hput_eq, (k2 31 (by omega) (by omega) (by omega)).trans ((F1.2 31 (by omega)).trans p1), gg, (k2 32 (by omega) (by omega) (by omega)).trans ((F1.2 32 (by omega)).trans p2)⟩
  have Sf2 : isSq h2 33 (sn s) m0 Pf Wl Xf Kf kf ff := isSq.ag S3 (fun l hl => by obtain ⟨u1, u2⟩ := hl; exact k2 l (by omega) (by omega) (by omega))
  have Sc2 : isSc h2 2 (sn s) P W X K (mx (sf s) (sn s)) f := isSq.ag S1 (fun l hl => by obtain ⟨u1, u2⟩ := hl; exact k2 l (by omega) (by omega) (by omega))
  have h2p : 2 ^ (sn s - 1) ≤ 2 ^ 11 := Nat.pow_le_pow_right (by decide) (by omega)
  have e2n : bShl 1 ((sn s : Int) - 1) = ((2 ^ (sn s - 1) : Nat) : Int) := by
    rw [show (sn s : Int) - 1 = ((sn s - 1 : Nat) : Int) by omega, bShl_1 _ (by omega)]
  have cbd : ∀ M b, RN (sn s) (lab (sn s) F M) b → Clb (sn s) Wl Xf Kf g F M ≠ MXL ∧ Clb (sn s) Wl Xf Kf g F M < MXL := fun M b hb => by
    have := cst_bd hn hWl hXl (g := g) hb.1
    rw [Clb_cst (by omega) hn1 hn hF M hb] at this
    unfold MXL; omega
  have main : ∃ (h' : Hp) (L : Int) (b : Nat → Int) (kt' kb : Int) (ft' : Nat → Int), fX3_run_34 FU 27 2 g k MXL ((0 : Nat) : Int) h2 = some (L, h') ∧ isPt h' 30 (sn s) kt' ft' ∧ isSc h' 2 (sn s) P W X K kb b ∧ (L ≠ MXL → kb = mx b (sn s)) ∧ LB (sn s) (fun M => bcv (M : Int) = some ((k : Int) - 1)) (lab (sn s) F) (Clb (sn s) Wl Xf Kf g F) MXL (2 ^ (sn s - 1)) L b ∧ Fr (fun l => (7 ≤ l ∧ l ≤ 9) ∨ (30 ≤ l ∧ l ≤ 32)) h2 h' := by
    refine lp (fun N M (z : Int × Hp) => fX3_run_34 N 27 2 g k z.1 M z.2) (fun M z => ∃ (b : Nat → Int) (kt' kb : Int) (ft' : Nat → Int), isPt z.2 30 (sn s) kt' ft' ∧ isSc z.2 2 (sn s) P W X K kb b ∧ (z.1 ≠ MXL → kb = mx b (sn s)) ∧ LB (sn s) (fun M => bcv (M : Int) = some ((k : Int) - 1)) (lab (sn s) F) (Clb (sn s) Wl Xf Kf g F) MXL M z.1 b ∧ Fr (fun l => (7 ≤ l ∧ l ≤ 9) ∨ (30 ≤ l ∧ l ≤ 32)) h2 z.2) (2 ^ (sn s - 1)) (fun q => ∃ (h' : Hp) (L : Int) (b : Nat → Int) (kt' kb : Int) (ft' : Nat → Int), q = some (L, h') ∧ isPt h' 30 (sn s) kt' ft' ∧ isSc h' 2 (sn s) P W X K kb b ∧ (L ≠ MXL → kb = mx b (sn s)) ∧ LB (sn s) (fun M => bcv (M : Int) = some ((k : Int) - 1)) (lab (sn s) F) (Clb (sn s) Wl Xf Kf g F) MXL (2 ^ (sn s - 1)) L b ∧ Fr (fun l => (7 ≤ l ∧ l ≤ 9) ∨ (30 ≤ l ∧ l ≤ 32)) h2 h') ?_ ?_ FU 0 (MXL, h2) (Nat.zero_le _) (FU_lt (by omega)) ⟨f, kt, mx (sf s) (sn s), ft, T2, Sc2, fun z => absurd rfl z, Or.inl ⟨rfl, fun M hM => by omega⟩, Fr.rf⟩
    · intro N M ⟨L, h3⟩ hM ⟨b, kt', kb, ft', a1, a2, a3, a4, a5⟩
      have a1 : isPt h3 30 (sn s) kt' ft' := a1
      have a2 : isSc h3 2 (sn s) P W X K kb b := a2
      have a3 : L ≠ MXL → kb = mx b (sn s) := a3
      have a4 : LB (sn s) (fun M => bcv (M : Int) = some ((k : Int) - 1)) (lab (sn s) F) (Clb (sn s) Wl Xf Kf g F) MXL M L b := a4
      have a5 : Fr (fun l => (7 ≤ l ∧ l ≤ 9) ∨ (30 ≤ l ∧ l ≤ 32)) h2 h3 := a5
      have o3 : h3.2 27 = some LO := (a5.2 27 (by omega)).trans o2
      have g28 : h3.2 28 = some (arr 0 12 F) := (a5.2 28 (by omega)).trans f28
      have g29 : h3.2 29 = some (arr 1 144 r) := (a5.2 29 (by omega)).trans f29
      have Sf3 : isSq h3 33 (sn s) m0 Pf Wl Xf Kf kf ff := isSq.ag Sf2 (fun l hl => by obtain ⟨u1, u2⟩ := hl; exact a5.2 l (by omega))
      obtain ⟨c, hc1, hc2⟩ := bc_ok (M := M) (by omega)
      show ∃ s' : Int × Hp, _ ∧ fX3_run_34 (N + 1) 27 2 g k L M h3 = _
      rw [fX3_run_34, gI 0 a2.1 rfl, ob, e2n, if_neg (by omega), hc2, ob, c32_n (by omega) (by omega), ob]
      have skip : ∀ h4, isPt h4 30 (sn s) kt' ft' ∨ (∃ kt'' ft'', isPt h4 30 (sn s) kt'' ft'') → isSc h4 2 (sn s) P W X K kb b → Fr (fun l => (7 ≤ l ∧ l ≤ 9) ∨ (30 ≤ l ∧ l ≤ 32)) h2 h4 → LB (sn s) (fun M => bcv (M : Int) = some ((k : Int) - 1)) (lab (sn s) F) (Clb (sn s) Wl Xf Kf g F) MXL (M + 1) L b → ∃ s' : Int × Hp, (∃ (b : Nat → Int) (kt' kb : Int) (ft' : Nat → Int), isPt s'.2 30 (sn s) kt' ft' ∧ isSc s'.2 2 (sn s) P W X K kb b ∧ (s'.1 ≠ MXL → kb = mx b (sn s)) ∧ LB (sn s) (fun M => bcv (M : Int) = some ((k : Int) - 1)) (lab (sn s) F) (Clb (sn s) Wl Xf Kf g F) MXL (M + 1) s'.1 b ∧ Fr (fun l => (7 ≤ l ∧ l ≤ 9) ∨ (30 ≤ l ∧ l ≤ 32)) h2 s'.2) ∧ fX3_run_124 (fX3_run_34 N) 27 2 g k L M h4 = fX3_run_34 N 27 2 g k s'.1 ((M + 1 : Nat) : Int) s'.2 := by
        intro h4 ht hs hf hl
        obtain ⟨kt2, ft2, ht2⟩ : ∃ kt2 ft2, isPt h4 30 (sn s) kt2 ft2 := ht.elim (fun w => ⟨_, _, w⟩) id
        refine ⟨(L, h4), ⟨b, kt2, kb, ft2, ht2, hs, a3, hl, hf⟩, ?_⟩
        rw [fX3_run_124, c32_n (by omega) (by omega), ob]; rfl
      by_cases hv : c = (k : Int) - 1
      · have hV : bcv (M : Int) = some ((k : Int) - 1) := by rw [hc1, hv]
        rw [if_pos hv]
        simp only []
        rw [co o3, ob, lcost_ok Sf3 hn1 hn hWl hXl o3 hF g29 hr (by omega), ob]
        simp only []
        obtain ⟨h4, gn, e4, T4, N4, F4⟩ := partBy_ok Sf3 hn1 hn o3 g28 hF a1 (M := M) (by omega)
        have hcb := cbd M gn N4
        obtain ⟨ad1, ad2⟩ := a4.add hV N4 hcb.1
        have F4' : Fr (fun l => (7 ≤ l ∧ l ≤ 9) ∨ (30 ≤ l ∧ l ≤ 32)) h3 h4 := F4.mono (fun l hl => by rcases hl with w | w | w <;> omega)
        have Sc4 : isSc h4 2 (sn s) P W X K kb b := isSq.ag a2 (fun l hl => by obtain ⟨u1, u2⟩ := hl; exact F4.2 l (by intro w; rcases w with w | w | w <;> omega))
        have o4 : h4.2 27 = some LO := (F4.2 27 (by intro w; rcases w with w | w | w <;> omega)).trans o3
        have take : (L = MXL ∨ Clb (sn s) Wl Xf Kf g F M < L ∨ (Clb (sn s) Wl Xf Kf g F M = L ∧ ahead (sn s) gn b)) → ∃ s' : Int × Hp, (∃ (b : Nat → Int) (kt' kb : Int) (ft' : Nat → Int), isPt s'.2 30 (sn s) kt' ft' ∧ isSc s'.2 2 (sn s) P W X K kb b ∧ (s'.1 ≠ MXL → kb = mx b (sn s)) ∧ LB (sn s) (fun M => bcv (M : Int) = some ((k : Int) - 1)) (lab (sn s) F) (Clb (sn s) Wl Xf Kf g F) MXL (M + 1) s'.1 b ∧ Fr (fun l => (7 ≤ l ∧ l ≤ 9) ∨ (30 ≤ l ∧ l ≤ 32)) h2 s'.2) ∧ fX3_run_109 (fX3_run_34 N) 27 2 g k M (Clb (sn s) Wl Xf Kf g F M) h4 = fX3_run_34 N 27 2 g k s'.1 ((M + 1 : Nat) : Int) s'.2 := by
          intro hlt
          obtain ⟨s0, s1, s2, s3, s4, s5⟩ := Sc4
          obtain ⟨h5, f5, e5, P5, q5, F5⟩ := ptCopy_ok s5 T4 (by omega)
          have eb : Eqn (sn s) f5 gn := fun i hi => q5 i (by omega)
          have k5 : ∀ l, l < 7 ∨ 9 < l → h5.2 l = h4.2 l := fun l hl => F5.2 l (by intro w; rcases w with w | w | w <;> omega)
          refine ⟨(Clb (sn s) Wl Xf Kf g F M, h5), ⟨f5, mx gn (sn s), mx gn (sn s), gn, T4.ag (fun j u1 u2 => k5 j (by omega)), ⟨(k5 _ (by omega)).trans s0, (k5 _ (by omega)).trans s1, (k5 _ (by omega)).trans s2, (k5 _ (by omega)).trans s3, (k5 _ (by omega)).trans s4, P5⟩, fun _ => (mx_congr eb).symm, ad1 hlt f5 eb, (a5.tr F4').tr (F5.mono (fun l hl => by rcases hl with w | w | w <;> omega))⟩, ?_⟩
          rw [fX3_run_109, gR 5 s0 rfl, ob, gR 2 o4 rfl, ob, co s5.1, ob, e5, ob, fX3_run_124, c32_n (by omega) (by omega), ob]; rfl
        by_cases c1 : Clb (sn s) Wl Xf Kf g F M ≤ L
        · rw [if_pos ((lCmp_le _ _).mpr c1)]
          rw [co o3, ob, e4, ob]
          by_cases c2 : Clb (sn s) Wl Xf Kf g F M < L
          · rw [if_pos ((lCmp_lt _ _).mpr c2)]
            exact take (Or.inr (Or.inl c2))
          · have c3 : Clb (sn s) Wl Xf Kf g F M = L := by omega
            have hL : L ≠ MXL := by rw [← c3]; exact hcb.1
            obtain ⟨rr, e6, h6⟩ := standsAhead_ok hn T4 Sc4.2.2.2.2.2
            rw [if_neg (fun w => c2 ((lCmp_lt _ _).mp w)), gR 2 o4 rfl, ob, gR 5 Sc4.1 rfl, ob, co T4.1, ob, e6, ob]
            rcases h6 with ⟨w1, w2⟩ | ⟨w1, w2⟩
            · rw [w1, if_neg one0]
              exact take (Or.inr (Or.inr ⟨c3, w2⟩))
            · rw [w1, if_pos rfl]
              exact skip h4 (Or.inr ⟨_, _, T4⟩) Sc4 (a5.tr F4') (ad2 hL (Or.inr ⟨c3, w2⟩))
        · rw [if_neg (fun w => c1 ((lCmp_le _ _).mp w))]
          have hL : L ≠ MXL := by intro w; rw [w] at c1; have := hcb.2; omega
          exact skip h3 (Or.inl a1) a2 a5 (ad2 hL (Or.inl (by omega)))
      · rw [if_neg hv]
        exact skip h3 (Or.inl a1) a2 a5 (a4.skip (by rw [hc1]; intro w; injection w with w; exact hv w))
    · intro N ⟨L, h3⟩ ⟨b, kt', kb, ft', a1, a2, a3, a4, a5⟩
      have a2 : isSc h3 2 (sn s) P W X K kb b := a2
      show ∃ (h' : Hp) (L' : Int) (b' : Nat → Int) (kt' kb : Int) (ft' : Nat → Int), fX3_run_34 (N + 1) 27 2 g k L ((2 ^ (sn s - 1) : Nat) : Int) h3 = some (L', h') ∧ _
      rw [fX3_run_34, gI 0 a2.1 rfl, ob, e2n, if_pos (by omega), fX3_run_130]
      exact ⟨h3, L, b, kt', kb, ft', rfl, a1, a2, a3, a4, a5⟩
  obtain ⟨h3, L, b, kt', kb, ft', e3, b1, b2, b3, b4, b5⟩ := main
  have hV : ∃ M : Nat, M < 2 ^ (sn s - 1) ∧ bcv ((M : Nat) : Int) = some ((k : Int) - 1) := by
    refine ⟨2 ^ (k - 1) - 1, ?_, ?_⟩
    · have h1 : 2 ^ (k - 1) ≤ 2 ^ (sn s - 1) := Nat.pow_le_pow_right (by decide) (by omega)
      have h2 : 1 ≤ 2 ^ (k - 1) := Nat.one_le_two_pow
      omega
    · rw [bcv_low (k - 1) (by omega)]; congr 1; omega
  have b4' : LB (sn s) (fun M => bcv (M : Int) = some ((k : Int) - 1)) (lab (sn s) F) (Clb (sn s) Wl (fun _ => 0) (fun _ => 0) g F) MXL (2 ^ (sn s - 1)) L b := by
    have ec : Clb (sn s) Wl (fun _ => 0) (fun _ => 0) g F = Clb (sn s) Wl Xf Kf g F := funext (fun M => (eU M).symm)
    rw [ec]; exact b4
  have hu := b4'.uq hV b4'
  have hLn : L ≠ MXL := by
    obtain ⟨M, hM, hVM⟩ := hV
    rcases b4 with ⟨-, w⟩ | ⟨w, -⟩
    · exact absurd hVM (w M hM)
    · exact w
  have ekb := b3 hLn
  subst ekb
  have F2 : Fr (fun l => 28 ≤ l ∧ l ≤ 30) h1 h2 := by rw [hh2]; exact ((Fr.rf.put (q := 28) (by omega)).put (q := 29) (by omega)).put (q := 30) (by omega)
  have FA : Fr (fun l => (7 ≤ l ∧ l ≤ 9) ∨ (23 ≤ l ∧ l ≤ 46)) h h3 := (F1.mono (fun l hl => by omega)).tr ((F2.mono (fun l hl => by omega)).tr (b5.mono (fun l hl => by omega)))
  have kk : ∀ l, (9 < l ∧ l < 28) ∨ 40 < l → h3.2 l = h.2 l := fun l hl => (b5.2 l (by omega)).trans ((F2.2 l (by omega)).trans (F1.2 l (by omega)))
  have N3 : CScr h3 := by
    refine ⟨⟨qc, qg, qa, qb, q1, q2, q3, (kk 23 (by omega)).trans qz1, (kk 24 (by omega)).trans qz2, (kk 25 (by omega)).trans qz3, (kk 26 (by omega)).trans qz4⟩, ⟨F, r, (sn s : Int), kt', ft', (kk 27 (by omega)).trans y1, (b5.2 28 (by omega)).trans f28, (b5.2 29 (by omega)).trans f29, b1⟩, ⟨_, _, _, _, _, _, _, _, isSq.ag Sf2 (fun l hl => by obtain ⟨u1, u2⟩ := hl; exact b5.2 l (by omega)), hFl⟩, ?_, ?_⟩
    · obtain ⟨g', u1, u2, v1, v2, v3⟩ := hmv
      exact ⟨g', u1, u2, (kk _ (by omega)).trans v1, (kk _ (by omega)).trans v2, (kk _ (by omega)).trans v3⟩
    · obtain ⟨u1, u2, v1, v2, v3⟩ := hlk
      exact ⟨u1, u2, (kk _ (by omega)).trans v1, (kk _ (by omega)).trans v2, (kk _ (by omega)).trans v3⟩
  refine ⟨h3, L, b, F, Wl, ?_, C.any FA b2 z1 z2 z3 z4 N3, fun F' => ?_, hF, fun a c ha hc => ?_, b4', hu.2.2, FC.of FA (fun l hl => by omega)⟩
  · unfold fX3_run
    have e3' : fX3_run_34 FU 27 2 g k 9223372036854775807 0 h2 = some (L, h3) := e3
    have o1b : (hput h1 28 (arr 0 12 F)).2 27 = some LO := (hput_ne (by omega)).trans o1
    have o1c : (hput (hput h1 28 (arr 0 12 F)) 29 (arr 1 144 r)).2 27 = some LO := (hput_ne (by omega)).trans o1b
    have p0b : (hput (hput h1 28 (arr 0 12 F)) 29 (arr 1 144 r)).2 30 = some (obj 5 [vi nt, vi kt, vr 31, vr 32]) := (hput_ne (by omega)).trans ((hput_ne (by omega)).trans ((F1.2 30 (by omega)).trans p0))
    have s0b : (hput (hput h1 28 (arr 0 12 F)) 29 (arr 1 144 r)).2 2 = some (scO 2 (sn s)) := (hput_ne (by omega)).trans ((hput_ne (by omega)).trans S1.1)
    rw [co y1, ob, e1, ob, co o1, ob, es, ob, co o1b, ob, er, ob, gR 2 o1c rfl, ob, gI 0 s0b rfl, ob, pV (fs' := [vi (sn s), vi kt, vr 31, vr 32]) 0 p0b (by simp) rfl, ob, ← hh2, e3']
  · rw [hFd]
    exact srt_congr (fun i hi => z1 _ (by omega)) (sn s) hn
  · rw [hfl a c ha hc]
    unfold fl
    rw [z1 _ (by omega), z1 _ (by omega)]
