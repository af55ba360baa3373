/-! thirds: both sides -/
theorem gsp_congr {X X' K K' : Nat → Int} (eX : Eqn 144 X X') (eK : Eqn 144 K K') {st st' : (Nat → Int) × Int} (h2 : st.2 = st'.2) (h1 : ∀ b, b < 12 → st.1 b = st'.1 b) {t : Nat} (ht : t < 12) : (gsp X K st t).2 = (gsp X' K' st' t).2 ∧ ∀ b, b < 12 → (gsp X K st t).1 b = (gsp X' K' st' t).1 b := by
  unfold gsp
  rw [h1 t ht]
  by_cases z : st'.1 t = -1
  · rw [if_pos z, if_pos z]
    refine ⟨by show st.2 + 1 = st'.2 + 1; rw [h2], fun b hb => ?_⟩
    show gst X K st.1 st.2 t b = gst X' K' st'.1 st'.2 t b
    unfold gst pul
    rw [h1 b hb, h2, eX _ (by omega), eK _ (by omega)]
  · rw [if_neg z, if_neg z]; exact ⟨h2, h1⟩
theorem glf_congr {X X' K K' : Nat → Int} (eX : Eqn 144 X X') (eK : Eqn 144 K K') : ∀ (l : List Nat) (st st' : (Nat → Int) × Int), (∀ t, t ∈ l → t < 12) → st.2 = st'.2 → (∀ b, b < 12 → st.1 b = st'.1 b) → ∀ b, b < 12 → (l.foldl (gsp X K) st).1 b = (l.foldl (gsp X' K') st').1 b := by
  intro l
  induction l with
  | nil => intro st st' _ _ h1; exact h1
  | cons t l ih =>
    intro st st' hl h2 h1
    have c := gsp_congr eX eK h2 h1 (hl t (by simp))
    simp only [List.foldl_cons]
    exact ih _ _ (fun u hu => hl u (by simp [hu])) c.1 c.2
theorem CP_eq {n : Nat} {X X' K K' : Nat → Int} (hn : n ≤ 12) (eX : Eqn 144 X X') (eK : Eqn 144 K K') {p : Nat → Bool} {l : List Nat} (hl : ∀ t, t ∈ l → t < 12) : CP n X K p l = CP n X' K' p l := by
  unfold CP
  refine sumN_congr (fun a ha => sumN_congr (fun b hb => ?_))
  unfold CPt glf
  rw [glf_congr eX eK l _ _ hl rfl (fun _ _ => rfl) a (by omega), glf_congr eX eK l _ _ hl rfl (fun _ _ => rfl) b (by omega), eX _ (by omega), eK _ (by omega)]
theorem SV_all {n : Nat} {X X' K K' : Nat → Int} (hn : n ≤ 12) (eX : Eqn 144 X X') (eK : Eqn 144 K K') : SV n X K (2 ^ n - 1) = OS n n (COl n X' K') (fun _ => true) := by
  have tb : ∀ j, j < n → (2 ^ n - 1).testBit j = true := fun j hj => by rw [Nat.testBit_two_pow_sub_one]; simp [hj]
  have hc : hct n (2 ^ n - 1).testBit = n := by
    have h1 : hct n (2 ^ n - 1).testBit = sumN n (fun _ => 1) := sumN_congr (fun i hi => by rw [tb i hi]; rfl)
    rw [h1]
    clear h1 tb
    induction n with
    | zero => rfl
    | succ n ih => simp only [sumN]; rw [ih (by omega)]; rfl
  unfold SV
  rw [hc, Int.toNat_natCast]
  refine OS_congr n tb (fun l hl => ?_)
  rw [CP_congr tb l, CP_eq hn eX eK (fun t ht => by have := (hl.2.2 t ht).1; omega), ← CP_all hl.1]
section
variable {h : Hp} {n : Nat} {P W X K f : Nat → Int} {k : Int}
theorem sumOrders_ok (S : isSc h 2 n P W X K k f) (hn7 : n ≤ 7) (hX : Xok X K) (sX : Sym n X) (sK : Sym n K) (o : h.2 44 = some (obj 1 [vr 45, vr 46])) {F : Nat → Int} (e : h.2 46 = some (arr 1 128 F)) : ∃ F', fX2_sumOverOrders 44 2 h = some (SV n X K (2 ^ n - 1), hput h 46 (arr 1 128 F')) := by
  have h7 : 2 ^ n ≤ 128 := by have : 2 ^ n ≤ 2 ^ 7 := Nat.pow_le_pow_right (by decide) hn7; omega
  have h1p : 1 ≤ 2 ^ n := Nat.one_le_two_pow
  unfold fX2_sumOverOrders
  rw [gI 0 S.1 rfl, ob, gR 1 o rfl, ob, aln_of e, ob, ob, ast_of (i := 0) 0 e rfl (by omega), ob, bShl_1 n (by omega)]
  rw [show min ((2 ^ n : Nat) : Int) ((128 : Nat) : Int) = ((2 ^ n : Nat) : Int) by omega]
  refine lp (fun N M (F : Nat → Int) => fX2_sumOverOrders_24 N 44 2 ((2 ^ n : Nat) : Int) M (hput h 46 (arr 1 128 F))) (fun M F => 1 ≤ M ∧ ∀ M', M' < M → F M' = SV n X K M') (2 ^ n) (fun r => ∃ F', r = some (SV n X K (2 ^ n - 1), hput h 46 (arr 1 128 F'))) ?_ ?_ FU 1 (ups F 0 0) h1p (FU_lt (by omega)) ⟨Nat.le_refl _, fun M' hM' => ?_⟩
  · intro N M F hM ⟨z, hF⟩
    have S' : isSc (hput h 46 (arr 1 128 F)) 2 n P W X K k f := isSq.fr (S := fun k => k = 46) (Fr.rf.put rfl) S (fun j hj => by obtain ⟨z1, z2⟩ := hj; omega)
    have o' : (hput h 46 (arr 1 128 F)).2 44 = some (obj 1 [vr 45, vr 46]) := (hput_ne (by omega)).trans o
    show ∃ s', _ ∧ fX2_sumOverOrders_24 (N + 1) 44 2 ((2 ^ n : Nat) : Int) M (hput h 46 (arr 1 128 F)) = fX2_sumOverOrders_24 N 44 2 ((2 ^ n : Nat) : Int) ((M + 1 : Nat) : Int) (hput h 46 (arr 1 128 s'))
    · refine ⟨ups F M (SV n X K M), ⟨by omega, fun M' hM' => ?_⟩, ?_⟩
      · rw [ups_at]
        by_cases w : M' = M
        · rw [if_pos w, w]
        · rw [if_neg w]; exact hF M' (by omega)
      · rw [fX2_sumOverOrders_24, if_neg (by omega), gR 1 o' rfl, ob, co o', ob, sumOver_ok S' hn7 hX sX sK o' hput_eq z hM hF, ob]
        show ((ast (hput h 46 (arr 1 128 F)) 1 46 M (SV n X K M)).bind fun _ => _) = _
        rw [ast_of M hput_eq rfl (by omega), ob, hput_hput, c32_n (by omega) (by omega), ob]; rfl
  · intro N F ⟨_, hF⟩
    have o' : (hput h 46 (arr 1 128 F)).2 44 = some (obj 1 [vr 45, vr 46]) := (hput_ne (by omega)).trans o
    show ∃ F', fX2_sumOverOrders_24 (N + 1) 44 2 ((2 ^ n : Nat) : Int) ((2 ^ n : Nat) : Int) (hput h 46 (arr 1 128 F)) = _
    rw [fX2_sumOverOrders_24, if_pos (by omega), fX2_sumOverOrders_47, gR 1 o' rfl, ob, ald_of (2 ^ n - 1) hput_eq (by omega) (by omega), ob, hF _ (by omega)]
    exact ⟨F, rfl⟩
  · have : M' = 0 := by omega
    subst this
    rw [ups_at, if_pos rfl, SV_0]
end
theorem both_thirds {h : Hp} (B : Both h) : ∃ r h1 h2, fX11_thirds 1 h = some (r, h1) ∧ fX12_thirds 62 h1 = some (r, h2) ∧ Both h2 := by
  obtain ⟨s, hist, x, flt, G, C, R⟩ := B
  have hn := G.1.2.1
  by_cases e : sn s ≤ 7
  · have C0 := C.set 0
    obtain ⟨P, W, X, K, f, S, z1, z2, z3, z4, z5⟩ := C0.2.1
    obtain ⟨r1, r2, o, q1, q2⟩ := C0.lks
    have sX : Sym (sn s) X := fun a b ha hb => by rw [z3 _ (by omega), z3 _ (by omega)]; exact G.1.2.2.2.2.2.2.2.1 a b (by omega) (by omega)
    have sK : Sym (sn s) K := fun a b ha hb => by rw [z4 _ (by omega), z4 _ (by omega)]; exact G.1.2.2.2.2.2.2.2.2.2.2.1 a b (by omega) (by omega)
    obtain ⟨F', e1⟩ := sumOrders_ok S e (G.1.xok.eq z3 z4) sX sK o q2
    have C1 : CI (hput (hput h 1 (BO 0)) 46 (arr 1 128 F')) s hist x 0 := C0.lik (Fr.rf.put (Or.inr rfl)) ⟨r1, F', (hput_ne (by omega)).trans q1, hput_eq⟩
    have F1 : FC h (hput (hput h 1 (BO 0)) 46 (arr 1 128 F')) := (FC.put (q := 1) (by omega)).tr (FC.put (q := 46) (by omega))
    obtain ⟨h2, e2, R2, F2⟩ := (R.ag F1).set 0
    obtain ⟨h3, e3, R3, F3⟩ := r_thirds R2 G.1 e
    refine ⟨SV (sn s) X K (2 ^ sn s - 1), hput (hput h 1 (BO 0)) 46 (arr 1 128 F'), h3, ?_, ?_, bo G C1 (F2.tr (FM.of F3 (fun k hk => by omega))) R3⟩
    · unfold fX11_thirds
      rw [gR 0 C.1 rfl, ob, gI 0 C.now rfl, ob, if_pos (by omega), C.put1 0, ob, gR 9 C0.1 rfl, ob, gR 0 C0.1 rfl, ob, co o, ob, e1, ob]
    · unfold fX12_thirds
      rw [e2, ob, R2.nb]
      show (if ((sn s : Nat) : Int) ≤ 7 then _ else _) = _
      rw [if_pos (by omega)]
      show fX12_thirds_23 FU 62 0 h2 = _
      rw [e3, SV_all hn z3 z4]
  · obtain ⟨h2, h3, e2, R2, e3, B3⟩ := refuse2 G C R 3
    refine ⟨-1, hput h 1 (BO 3), h3, ?_, ?_, B3⟩
    · unfold fX11_thirds
      rw [gR 0 C.1 rfl, ob, gI 0 C.now rfl, ob, if_neg (by omega), co C.1, ob, c_refuse C 3, ob]
    · unfold fX12_thirds
      rw [e2, ob, R2.nb]
      show (if ((sn s : Nat) : Int) ≤ 7 then _ else _) = _
      rw [if_neg (by omega)]
      show ((cob h2 11 62).bind fun _ => (fX12_no 62 3 h2).bind fun p6 => some (p6.1, p6.2)) = _
      rw [R2.cb, ob, e3, ob]
