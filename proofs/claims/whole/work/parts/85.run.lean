section
variable {h h' : Hp} {s : Scn} {hist : List Scn} {x : Aux} {flt : Int}
theorem CI.srch {P W X K b : Nat → Int} (C : CI h s hist x flt) (F : Fr (fun k => (7 ≤ k ∧ k ≤ 8) ∨ (23 ≤ k ∧ k ≤ 26)) h h') (S : isSc h' 2 (sn s) P W X K (mx b (sn s)) b) (z1 : Eqn 48 P (sP s)) (z2 : Eqn 144 W (sW s)) (z3 : Eqn 144 X (sX s)) (z4 : Eqn 144 K (sK s)) (N : ∃ c g a b r1 r2 r3, h'.2 23 = some (SO c g a b) ∧ h'.2 24 = some (arr 1 512 r1) ∧ h'.2 25 = some (arr 0 12 r2) ∧ h'.2 26 = some (arr 0 12 r3)) : CI h' (setf s b) hist x flt := by
  obtain ⟨c1, c2, ⟨A, nx, c3⟩, c4, c5, c6, c7, ⟨-, ⟨t1, t2, n, k, f, y1, y2, y3, y4⟩, ⟨n', m, P', W', X', K', k', f', w1, w2⟩, ⟨g', u1, u2, v1, v2, v3⟩, ⟨p1, p2, q1, q2, q3⟩⟩, c9⟩ := C
  have e : ∀ k, k < 7 ∨ (8 < k ∧ k < 23) ∨ 26 < k → h'.2 k = h.2 k := fun k z => F.2 k (by omega)
  exact ⟨(e _ (by omega)).trans c1, ⟨P, W, X, K, b, S, z1, z2, z3, z4, fun _ _ => rfl⟩, ⟨A, nx, c3.ag F.1 (fun k hk => e k (by omega))⟩, c4.ag (fun k hk => e k (by omega)), c5.ag (fun k hk => e k (by omega)), c6.ag (fun k hk => e k (by omega)), c7.ag (fun k hk => e k (by omega)), ⟨N, ⟨t1, t2, n, k, f, (e _ (by omega)).trans y1, (e _ (by omega)).trans y2, (e _ (by omega)).trans y3, y4.ag (fun l h1 h2 => e l (by omega))⟩, ⟨n', m, P', W', X', K', k', f', w1.ag (fun l hl => e l (by obtain ⟨e1, e2⟩ := hl; omega)), w2⟩, ⟨g', u1, u2, (e _ (by omega)).trans v1, (e _ (by omega)).trans v2, (e _ (by omega)).trans v3⟩, ⟨p1, p2, (e _ (by omega)).trans q1, (e _ (by omega)).trans q2, (e _ (by omega)).trans q3⟩⟩, c9.ag (fun k hk => e k (by omega))⟩
theorem c_run (C : CI h s hist x flt) (G : GSc s) {g lo hi : Int} (hg9 : g ≠ 2 → sn s ≤ 9) (hhi1 : 1 ≤ hi) (hhi2 : hi ≤ 12) (hlo1 : 0 ≤ lo) (hlo2 : lo ≤ 12) (hq : ∃ y, Qn (sn s) lo hi y) : ∃ (h' : Hp) (L : Int) (b : Nat → Int), fX8_run 23 2 g lo hi h = some (L, h') ∧ CI h' (setf s b) hist x flt ∧ BSt (sn s) lo hi (fun y => cst (sn s) (sW s) (sX s) (sK s) g y) MXL (fun _ => True) L b ∧ RGS (sn s) b ∧ FC h h' := by
  have hn := G.2.1
  have hn1 := G.1
  obtain ⟨P, W, X, K, f, S, z1, z2, z3, z4, z5⟩ := C.2.1
  obtain ⟨⟨c, g', a', b', r1, r2, r3, y1, y2, y3, y4⟩, -⟩ := C.2.2.2.2.2.2.2.1
  have hW := G.wok.eq z2; have hX := G.xok.eq z3 z4; have hS := G.sym z2
  have h0 : (hput h 23 (SO MXL g lo hi)).2 23 = some (SO MXL g lo hi) := hput_eq
  have S0 : isSc (hput h 23 (SO MXL g lo hi)) 2 (sn s) P W X K (mx (sf s) (sn s)) f := isSq.ag S (fun l hl => by obtain ⟨q1, q2⟩ := hl; exact hput_ne (by omega))
  have h2p : 2 ^ (sn s) ≤ 2 ^ 12 := Nat.pow_le_pow_right (by decide) hn
  -- the costs of all heaps
  have L1 : ∃ h1, (if g = 2 then fX8_run_36 23 2 (hput h 23 (SO MXL g lo hi)) else (cob (hput h 23 (SO MXL g lo hi)) 7 23).bind fun _ => (fX8_costAllHeaps 23 2 (hput h 23 (SO MXL g lo hi))).bind fun h8 => fX8_run_36 23 2 h8) = fX8_run_36 23 2 h1 ∧ h1.2 23 = some (SO MXL g lo hi) ∧ (∃ r, h1.2 24 = some (arr 1 512 r) ∧ (g ≠ 2 → ∀ M : Nat, M < 2 ^ (sn s) → r M = hco (sn s) W X K g M.testBit)) ∧ Fr (fun k => k = 24) (hput h 23 (SO MXL g lo hi)) h1 := by
    by_cases g2 : g = 2
    · rw [if_pos g2]
      exact ⟨_, rfl, h0, ⟨r1, (hput_ne (by omega)).trans y2, fun z => absurd g2 z⟩, Fr.rf⟩
    · have hn9 := hg9 g2
      have h29 : 2 ^ (sn s) ≤ 2 ^ 9 := Nat.pow_le_pow_right (by decide) hn9
      have L : ∃ r, fX8_costAllHeaps 23 2 (hput h 23 (SO MXL g lo hi)) = some (hput (hput h 23 (SO MXL g lo hi)) 24 (arr 1 512 r)) ∧ ∀ M : Nat, M < 2 ^ (sn s) → r M = hco (sn s) W X K g M.testBit := by
        unfold fX8_costAllHeaps
        rw [gI 0 S0.1 rfl, ob, gR 0 h0 rfl, ob, aln_of ((hput_ne (by omega)).trans y2), ob, bShl_1 _ (by omega), show min ((2 ^ (sn s) : Nat) : Int) ((512 : Nat) : Int) = ((2 ^ (sn s) : Nat) : Int) by omega]
        have z := lp (fun N M (r : Nat → Int) => fX8_costAllHeaps_17 N 23 2 ((2 ^ (sn s) : Nat) : Int) M (hput (hput h 23 (SO MXL g lo hi)) 24 (arr 1 512 r))) (fun M r => ∀ m : Nat, m < M → r m = hco (sn s) W X K g m.testBit) (2 ^ (sn s)) (fun o => ∃ r, o = some (hput (hput h 23 (SO MXL g lo hi)) 24 (arr 1 512 r)) ∧ ∀ M : Nat, M < 2 ^ (sn s) → r M = hco (sn s) W X K g M.testBit) ?_ ?_ FU 0 r1 (Nat.zero_le _) (FU_lt (by omega)) (fun m hm => by omega)
        · rw [show hput (hput h 23 (SO MXL g lo hi)) 24 (arr 1 512 r1) = hput h 23 (SO MXL g lo hi) from hput_self ((hput_ne (by omega)).trans y2)] at z; exact z
        · intro N M r hM hr
          have o' : (hput (hput h 23 (SO MXL g lo hi)) 24 (arr 1 512 r)).2 23 = some (SO MXL g lo hi) := (hput_ne (by omega)).trans h0
          have S' : isSc (hput (hput h 23 (SO MXL g lo hi)) 24 (arr 1 512 r)) 2 (sn s) P W X K (mx (sf s) (sn s)) f := isSq.ag S0 (fun l hl => by obtain ⟨q1, q2⟩ := hl; exact hput_ne (by omega))
          rw [fX8_costAllHeaps_17, if_neg (by omega), gR 0 o' rfl, ob, gI 4 o' rfl, ob, ofHeap_ok S' hn1 hn hW hX (by omega), ob]
          simp only []
          rw [ast_of M hput_eq rfl (by omega), ob, hput_hput, c32_n (by omega) (by omega), ob]
          refine ⟨_, fun m hm => ?_, rfl⟩
          rw [ups_at]
          by_cases w : m = M
          · rw [if_pos w, w]
          · rw [if_neg w]; exact hr m (by omega)
        · intro N r hr
          rw [fX8_costAllHeaps_17, if_pos (by omega), fX8_costAllHeaps_43]
          exact ⟨r, rfl, hr⟩
      obtain ⟨r, e1, hr⟩ := L
      rw [if_neg g2, co h0, ob, e1, ob]
      exact ⟨_, rfl, (hput_ne (by omega)).trans h0, ⟨r, hput_eq, fun _ => hr⟩, Fr.rf.put rfl⟩
  obtain ⟨h1, e1, o1, ⟨r24, q24, hr24⟩, Fr1⟩ := L1
  have e25 : h1.2 25 = some (arr 0 12 r2) := (Fr1.2 25 (by omega)).trans ((hput_ne (by omega)).trans y3)
  obtain ⟨F0, e2, hF0⟩ := fillI 0 (by omega) e25
  have S2 : isSc (hput h1 25 (arr 0 12 F0)) 2 (sn s) P W X K (mx (sf s) (sn s)) f := isSq.ag S0 (fun l hl => by obtain ⟨q1, q2⟩ := hl; exact (hput_ne (by omega)).trans (Fr1.2 l (by omega)))
  have o2 : (hput h1 25 (arr 0 12 F0)).2 23 = some (SO MXL g lo hi) := (hput_ne (by omega)).trans o1
  have D0 : DS (sn s) P W X K g lo hi (hput h1 25 (arr 0 12 F0)) 0 (fun _ => 0) MXL f := ⟨r24, F0, r3, mx (sf s) (sn s), o2, (hput_ne (by omega)).trans q24, hput_eq, (hput_ne (by omega)).trans ((Fr1.2 26 (by omega)).trans ((hput_ne (by omega)).trans y4)), fun v hv => hF0 v hv, fun i hi => by omega, hr24, S2, fun z => absurd rfl z⟩
  obtain ⟨h3, L, b, e3, D3, B3, F3⟩ := desc_ok hn1 hn hW hX hS hg9 hhi1 hhi2 hlo2 hlo1 20 0 (fun _ => 0) MXL f (hput h1 25 (arr 0 12 F0)) (by omega) (by omega) (fun i hi => by omega) (by show (0 : Int) ≤ hi; omega) D0 (Or.inl ⟨rfl, fun x hx z => by obtain ⟨i, hi, -⟩ := z; omega⟩)
  obtain ⟨w24, w25, w26, kf, d0, d1, d2, d3, d4, d5, d6, S3, d8⟩ := D3
  have B4 : BSt (sn s) lo hi (fun y => cst (sn s) (sW s) (sX s) (sK s) g y) MXL (fun _ => True) L b := by
    have ec : (fun y => cst (sn s) (sW s) (sX s) (sK s) g y) = (fun y => cst (sn s) W X K g y) := by
      funext y
      exact (cst_congr hn z2 z3 z4 (fun _ _ => rfl) g).symm
    rw [ec]
    exact B3.mono (fun x _ => ⟨fun _ => trivial, fun _ => Or.inr (fun i hi => by omega)⟩)
  have hLb : L ≠ MXL ∧ Qn (sn s) lo hi b := by
    obtain ⟨y, hy⟩ := hq
    rcases B4 with ⟨q1, q2⟩ | ⟨q0, q1, -⟩
    · exact absurd trivial (q2 y hy)
    · exact ⟨q0, q1⟩
  have ekf := d8 hLb.1
  subst ekf
  have FA : Fr (fun k => (7 ≤ k ∧ k ≤ 8) ∨ (23 ≤ k ∧ k ≤ 26)) h h3 := (Fr.rf.put (q := 23) (by omega)).tr ((Fr1.mono (fun k hk => by omega)).tr ((Fr.rf.put (q := 25) (by omega)).tr (F3.mono (fun k hk => by omega))))
  refine ⟨h3, L, b, ?_, C.srch FA S3 z1 z2 z3 z4 ⟨L, g, lo, hi, w24, w25, w26, d0, d1, d2, d3⟩, B4, hLb.2.1, FC.of FA (fun k hk => by omega)⟩
  have ePC : PC (sn s) W X K g 0 (fun _ => 0) = if g = 3 then grd (sn s) X K else 0 := by
    unfold PC PW PS
    by_cases g2 : g = 2
    · rw [if_pos g2, if_neg (by omega)]; rfl
    · rw [if_neg g2]
      show _ + sumN 0 _ = _
      show _ + (0 : Int) = _
      omega
  have e3' : fX8_descend 20 23 2 0 0 (if g = 3 then grd (sn s) X K else 0) (hput h1 25 (arr 0 12 F0)) = some h3 := by rw [← ePC]; exact e3
  unfold fX8_run
  rw [pV (fs' := [vr 24, vr 25, vr 26, vl c, vi g, vi a', vi b']) 4 y1 (by simp) rfl, ob, pV (fs' := [vr 24, vr 25, vr 26, vl c, vi g, vi lo, vi b']) 5 hput_eq (by simp) rfl, ob, pV (fs' := [vr 24, vr 25, vr 26, vl c, vi g, vi lo, vi hi]) 6 hput_eq (by simp) rfl, ob, pV (fs' := [vr 24, vr 25, vr 26, vl MXL, vi g, vi lo, vi hi]) 3 hput_eq (by simp) rfl, ob, hput_hput, hput_hput, hput_hput, gI 4 h0 rfl, ob, e1, fX8_run_36, gR 1 o1 rfl, ob, e2, ob, gI 4 o2 rfl, ob, ground_ok S2 hn1 hn hX, ob]
  simp only []
  rw [co o2, ob, e3', ob, gL 3 d0 rfl, ob]
end
