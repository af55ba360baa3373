section
variable {h h' : Hp} {s : Scn} {hist : List Scn} {x : Aux} {flt : Int}
/-- the class's own parting has been told anew, scratch rows may hold anything -/
theorem CI.setp (C : CI h s hist x flt) (F : Fr (fun k => 7 ≤ k ∧ k ≤ 9) h h') {g : Nat → Int} (P : isPt h' 7 (sn s) (mx g (sn s)) g) : CI h' (setf s g) hist x flt := by
  obtain ⟨Pl, W, X, K, f, ⟨s0, s1, s2, s3, s4, s5⟩, z1, z2, z3, z4, z5⟩ := C.2.1
  refine C.scene F.1 (fun k hk => F.2 k (fun z => hk ⟨by omega, by omega⟩)) ⟨Pl, W, X, K, g, ⟨(F.2 _ (by omega)).trans s0, (F.2 _ (by omega)).trans s1, (F.2 _ (by omega)).trans s2, (F.2 _ (by omega)).trans s3, (F.2 _ (by omega)).trans s4, P⟩, z1, z2, z3, z4, fun _ _ => rfl⟩
theorem mxe {n : Nat} {f g : Nat → Int} (e : Eqn n f g) : mx f n = mx g n := mx_congr e
theorem FC.of {S : Nat → Prop} (F : Fr S h h') (hs : ∀ k, S k → k < 62 ∨ 80 < k) : FC h h' := fun k h1 h2 => F.2 k (fun z => by have := hs k z; omega)
theorem FM.of {S : Nat → Prop} (F : Fr S h h') (hs : ∀ k, S k → 62 ≤ k ∧ k ≤ 80) : FM h h' := ⟨F.1, fun k hk => F.2 k (fun z => by have := hs k z; omega)⟩
theorem setf_uniq {g g' : Nat → Int} (C : CI h (setf s g) hist x flt) (e : Eqn (sn s) g g') : CI h (setf s g') hist x flt := by
  obtain ⟨c1, ⟨P, W, X, K, f, S, z1, z2, z3, z4, z5⟩, c3⟩ := C
  refine ⟨c1, ⟨P, W, X, K, f, ?_, z1, z2, z3, z4, fun i hi => (z5 i hi).trans (e i hi)⟩, c3⟩
  have e2 : mx (sf (setf s g')) (sn (setf s g')) = mx (sf (setf s g)) (sn (setf s g)) := (mx_congr e).symm
  rw [e2]; exact S
end
theorem both_put {h : Hp} (B : Both h) (a b : Int) : ∃ r h1 h2, fX11_put 1 a b h = some (r, h1) ∧ fX12_put 62 a b h1 = some (r, h2) ∧ Both h2 := by
  obtain ⟨s, hist, x, flt, G, C, R⟩ := B
  have hn := G.1.2.1
  have hr := G.1.2.2.2.2.2.2.2.2.2.2.2.2
  obtain ⟨P, W, X, K, f, ⟨s0, s1, s2, s3, s4, p0, p1, p2⟩, -⟩ := C.2.1
  by_cases e : (0 ≤ a ∧ a < sn s) ∧ 0 ≤ b ∧ b ≤ mx (sf s) (sn s)
  · obtain ⟨ea, eb⟩ := e
    obtain ⟨i, rfl⟩ := Int.eq_ofNat_of_zero_le ea.1
    have hi : i < sn s := by omega
    obtain ⟨h1, e1, C1, F1⟩ := c_change C hn
    obtain ⟨P', W', X', K', f', ⟨t0, t1, t2, t3, t4, q0, q1, gg, q2⟩, -, -, -, -, z5⟩ := C1.2.1
    have Q : isPt (hput h1 8 (arr 0 12 (ups f' i b))) 7 (sn s) (mx (sf s) (sn s)) (ups f' i b) := ⟨(hput_ne (by omega)).trans q0, hput_eq, gg, (hput_ne (by omega)).trans q2⟩
    have hml := hr.mx_le
    obtain ⟨h2, g, e2, P2, N2, F2⟩ := renumber_ok hn Q (fun j hj => by
      rw [ups_at]
      by_cases z : j = i
      · rw [if_pos z]; omega
      · rw [if_neg z, z5 j hj]; have := hr j hj; have := hr.lt hj; omega)
    have FA : Fr (fun k => 7 ≤ k ∧ k ≤ 9) h1 h2 := (Fr.rf.put (q := 8) (by omega)).tr (F2.mono (fun k hk => by rcases hk with z | z | z <;> omega))
    have C2 := C1.setp FA P2
    have F3 : FC h h2 := F1.tr (FC.of FA (fun k hk => by omega))
    obtain ⟨h3, h4, e3, R3, F4, e4, R4, F5⟩ := change2 G R F3
    obtain ⟨h5, Fn, e5, m5, q5, R5, F6⟩ := r_takeNow R4 hn
    have R6 := R5.pu (q := 76) (by omega) (ups Fn i b)
    obtain ⟨h7, g', Fg, e7, m7, q7, N7, R7, F7⟩ := r_number R6 hn hput_eq
    have eg : Eqn (sn s) g' g := RN.same N7 N2 (fun j k hj hk => by
      rw [ups_at, ups_at, ups_at, ups_at]
      by_cases z1 : j = i <;> by_cases z2 : k = i <;> simp [z1, z2, q5 _ hj, q5 _ hk, z5 _ hj, z5 _ hk])
    obtain ⟨h8, e8, R8, F8⟩ := r_become R7 hn (hist12 G) (Or.inl rfl) m7 (fun j hj => (q7 j hj).trans (eg j hj))
    obtain ⟨pa, fp, sm, o⟩ := R3.obj
    obtain ⟨pa5, fp5, sm5, o5⟩ := R5.obj
    obtain ⟨pa7, fp7, sm7, o7⟩ := R7.obj
    refine ⟨mx g (sn s), h2, h8, ?_, ?_, bo ⟨setf_good G.1 N2.1, take20_good G.1 G.2.1, G.2.2⟩ C2 (F5.tr ((FM.of F6 (fun k hk => by omega)).tr ((FM.put (by omega)).tr ((FM.of F7 (fun k hk => by omega)).tr (FM.of F8 (fun k hk => by omega)))))) R8⟩
    · unfold fX11_put
      rw [co C.1, ob, c_isThing C, ob, if_pos ea, if_neg one0, if_neg (by omega), gR 0 C.1 rfl, ob, gR 5 s0 rfl, ob, gI 1 p0 rfl, ob, if_pos eb.2, co C.1, ob, C.cr1, ob, e1, ob, gR 0 C1.1 rfl, ob, gR 5 t0 rfl, ob, gR 2 q0 rfl, ob, ast_of i q1 rfl (by omega), ob,
        gR 0 ((hput_ne (by omega)).trans C1.1) rfl, ob, gR 5 ((hput_ne (by omega)).trans t0) rfl, ob, co Q.1, ob, e2, ob, gR 0 C2.1 rfl, ob, gR 5 ((F2.2 2 (by intro z; rcases z with z | z | z <;> omega)).trans ((hput_ne (by omega)).trans t0)) rfl, ob, gI 1 P2.1 rfl, ob]
    · unfold fX12_put
      rw [e3, ob, R3.cb, ob, r_isThing R3, ob, if_pos ea, if_neg one0, if_neg (by omega), gR 5 o rfl, ob, R3.cb, ob, r_heapsN R3 G.1, ob, if_pos eb.2, R3.cb, ob, e4, ob, R4.cb, ob, e5, ob, gR 20 o5 rfl, ob, ast_of i m5 rfl (by omega), ob, gR 20 ((hput_ne (by omega)).trans o5) rfl, ob, R6.cb, ob, e7, ob, gR 20 o7 rfl, ob, R7.cb, ob, e8, ob, mxe eg]
  · obtain ⟨h2, h3, e2, R2, e3, B3⟩ := refuse2 G C R 1
    obtain ⟨pa, fp, sm, o⟩ := R2.obj
    have b1 : fX11_put_26 1 h = some (-1, hput h 1 (BO 1)) := by
      unfold fX11_put_26; rw [co C.1, ob, c_refuse C 1, ob]
    have b2 : fX12_put_29 62 h2 = some (-1, h3) := by
      unfold fX12_put_29; rw [R2.cb, ob, e3, ob]
    refine ⟨-1, hput h 1 (BO 1), h3, ?_, ?_, B3⟩
    · unfold fX11_put
      rw [co C.1, ob, c_isThing C, ob]
      by_cases ea : 0 ≤ a ∧ a < sn s
      · rw [if_pos ea, if_neg one0]
        by_cases eb : b < 0
        · rw [if_pos eb, b1]
        · rw [if_neg eb, gR 0 C.1 rfl, ob, gR 5 s0 rfl, ob, gI 1 p0 rfl, ob, if_neg (fun z => e ⟨ea, by omega, z⟩), b1]
      · rw [if_neg ea, if_pos rfl, b1]
    · unfold fX12_put
      rw [e2, ob, R2.cb, ob, r_isThing R2, ob]
      by_cases ea : 0 ≤ a ∧ a < sn s
      · rw [if_pos ea, if_neg one0]
        by_cases eb : b < 0
        · rw [if_pos eb, b2]
        · rw [if_neg eb, gR 5 o rfl, ob, R2.cb, ob, r_heapsN R2 G.1, ob, if_neg (fun z => e ⟨ea, by omega, z⟩), b2]
      · rw [if_neg ea, if_pos rfl, b2]
