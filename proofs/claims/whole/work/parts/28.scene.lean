def Eqn (m : Nat) (F G : Nat → Int) : Prop := ∀ i, i < m → F i = G i
def scs (q k : Nat) : Prop := q ≤ k ∧ k ≤ q + 7
theorem isSq.fr {S : Nat → Prop} {h h' : Hp} {q : Nat} {n m k : Int} {P W X K f : Nat → Int} (a : Fr S h h') (p : isSq h q n m P W X K k f) (hs : ∀ j, scs q j → ¬ S j) : isSq h' q n m P W X K k f := by
  obtain ⟨p0, p1, p2, p3, p4, p5⟩ := p
  exact ⟨(a.2 _ (hs _ ⟨by omega, by omega⟩)).trans p0, (a.2 _ (hs _ ⟨by omega, by omega⟩)).trans p1, (a.2 _ (hs _ ⟨by omega, by omega⟩)).trans p2, (a.2 _ (hs _ ⟨by omega, by omega⟩)).trans p3, (a.2 _ (hs _ ⟨by omega, by omega⟩)).trans p4, p5.fr a (fun j hj => hs j (by rcases hj with rfl | rfl | rfl <;> exact ⟨by omega, by omega⟩))⟩
theorem pts_scs {q k : Nat} (h : pts (q + 5) k) : scs q k := by rcases h with rfl | rfl | rfl <;> exact ⟨by omega, by omega⟩
set_option maxHeartbeats 2000000 in
theorem restart_ok {h : Hp} {q : Nat} {n m k : Int} {P W X K f : Nat → Int} (S : isSq h q n m P W X K k f) (n' : Int) : ∃ h' P' W' X' K' f', fX7_restart q n' h = some h' ∧ isSc h' q n' P' W' X' K' 1 f' ∧ Eqn 48 P' (fun _ => 0) ∧ Eqn 144 W' (fun _ => 0) ∧ Eqn 144 X' (fun _ => 0) ∧ Eqn 144 K' (fun _ => 0) ∧ Eqn 12 f' (fun _ => 0) ∧ Fr (scs q) h h' := by
  obtain ⟨s0, s1, s2, s3, s4, s5⟩ := S
  unfold fX7_restart
  rw [pV (fs' := [vi n', vr (q + 1), vr (q + 2), vr (q + 3), vr (q + 4), vr (q + 5)]) 0 s0 (by simp) rfl, ob]
  have F0 : Fr (scs q) h (hput h q (obj 6 [vi n', vr (q + 1), vr (q + 2), vr (q + 3), vr (q + 4), vr (q + 5)])) := Fr.rf.put ⟨by omega, by omega⟩
  have a0 : (hput h q (obj 6 [vi n', vr (q + 1), vr (q + 2), vr (q + 3), vr (q + 4), vr (q + 5)])).2 q = some (obj 6 [vi n', vr (q + 1), vr (q + 2), vr (q + 3), vr (q + 4), vr (q + 5)]) := hput_eq
  have a1 := (hput_ne (h := h) (q := q) (c := obj 6 [vi n', vr (q + 1), vr (q + 2), vr (q + 3), vr (q + 4), vr (q + 5)]) (k := q + 1) (by omega)).trans s1
  have a2 := (hput_ne (h := h) (q := q) (c := obj 6 [vi n', vr (q + 1), vr (q + 2), vr (q + 3), vr (q + 4), vr (q + 5)]) (k := q + 2) (by omega)).trans s2
  have a3 := (hput_ne (h := h) (q := q) (c := obj 6 [vi n', vr (q + 1), vr (q + 2), vr (q + 3), vr (q + 4), vr (q + 5)]) (k := q + 3) (by omega)).trans s3
  have a4 := (hput_ne (h := h) (q := q) (c := obj 6 [vi n', vr (q + 1), vr (q + 2), vr (q + 3), vr (q + 4), vr (q + 5)]) (k := q + 4) (by omega)).trans s4
  have a5 : isPt (hput h q (obj 6 [vi n', vr (q + 1), vr (q + 2), vr (q + 3), vr (q + 4), vr (q + 5)])) (q + 5) m k f := s5.fr (S := fun k => k = q) (Fr.rf.put rfl) (fun j hj => by rcases hj with rfl | rfl | rfl <;> omega)
  generalize hput h q (obj 6 [vi n', vr (q + 1), vr (q + 2), vr (q + 3), vr (q + 4), vr (q + 5)]) = g at F0 a0 a1 a2 a3 a4 a5 ⊢
  obtain ⟨P', e1, z1⟩ := fillI 0 (by omega) a1
  rw [gR 1 a0 rfl, ob, e1, ob, gR 2 ((hput_ne (by omega)).trans a0) rfl, ob]
  obtain ⟨W', e2, z2⟩ := fillI 0 (by omega) ((hput_ne (show q + 2 ≠ q + 1 by omega)).trans a2 : (hput g (q + 1) (arr 0 48 P')).2 (q + 2) = _)
  rw [e2, ob, gR 3 ((hput_ne (by omega)).trans ((hput_ne (by omega)).trans a0)) rfl, ob]
  obtain ⟨X', e3, z3⟩ := fillI 0 (by omega) ((hput_ne (show q + 3 ≠ q + 2 by omega)).trans ((hput_ne (show q + 3 ≠ q + 1 by omega)).trans a3) : (hput (hput g (q + 1) (arr 0 48 P')) (q + 2) (arr 0 144 W')).2 (q + 3) = _)
  rw [e3, ob, gR 4 ((hput_ne (by omega)).trans ((hput_ne (by omega)).trans ((hput_ne (by omega)).trans a0))) rfl, ob]
  obtain ⟨K', e4, z4⟩ := fillI 0 (by omega) ((hput_ne (show q + 4 ≠ q + 3 by omega)).trans ((hput_ne (show q + 4 ≠ q + 2 by omega)).trans ((hput_ne (show q + 4 ≠ q + 1 by omega)).trans a4)) : (hput (hput (hput g (q + 1) (arr 0 48 P')) (q + 2) (arr 0 144 W')) (q + 3) (arr 0 144 X')).2 (q + 4) = _)
  rw [e4, ob, gR 5 ((hput_ne (by omega)).trans ((hput_ne (by omega)).trans ((hput_ne (by omega)).trans ((hput_ne (by omega)).trans a0)))) rfl, ob]
  have b0 : (hput (hput (hput (hput g (q + 1) (arr 0 48 P')) (q + 2) (arr 0 144 W')) (q + 3) (arr 0 144 X')) (q + 4) (arr 0 144 K')).2 q = _ := (hput_ne (by omega)).trans ((hput_ne (by omega)).trans ((hput_ne (by omega)).trans ((hput_ne (by omega)).trans a0)))
  have b1 : (hput (hput (hput (hput g (q + 1) (arr 0 48 P')) (q + 2) (arr 0 144 W')) (q + 3) (arr 0 144 X')) (q + 4) (arr 0 144 K')).2 (q + 1) = some (arr 0 48 P') := (hput_ne (by omega)).trans ((hput_ne (by omega)).trans ((hput_ne (by omega)).trans hput_eq))
  have b2 : (hput (hput (hput (hput g (q + 1) (arr 0 48 P')) (q + 2) (arr 0 144 W')) (q + 3) (arr 0 144 X')) (q + 4) (arr 0 144 K')).2 (q + 2) = some (arr 0 144 W') := (hput_ne (by omega)).trans ((hput_ne (by omega)).trans hput_eq)
  have b3 : (hput (hput (hput (hput g (q + 1) (arr 0 48 P')) (q + 2) (arr 0 144 W')) (q + 3) (arr 0 144 X')) (q + 4) (arr 0 144 K')).2 (q + 3) = some (arr 0 144 X') := (hput_ne (by omega)).trans hput_eq
  have b4 : (hput (hput (hput (hput g (q + 1) (arr 0 48 P')) (q + 2) (arr 0 144 W')) (q + 3) (arr 0 144 X')) (q + 4) (arr 0 144 K')).2 (q + 4) = some (arr 0 144 K') := hput_eq
  have F1 : Fr (fun k => q + 1 ≤ k ∧ k ≤ q + 4) g (hput (hput (hput (hput g (q + 1) (arr 0 48 P')) (q + 2) (arr 0 144 W')) (q + 3) (arr 0 144 X')) (q + 4) (arr 0 144 K')) := (((Fr.rf.put ⟨by omega, by omega⟩).put ⟨by omega, by omega⟩).put ⟨by omega, by omega⟩).put ⟨by omega, by omega⟩
  generalize hput (hput (hput (hput g (q + 1) (arr 0 48 P')) (q + 2) (arr 0 144 W')) (q + 3) (arr 0 144 X')) (q + 4) (arr 0 144 K') = g2 at b0 b1 b2 b3 b4 F1 ⊢
  have b5 : isPt g2 (q + 5) m k f := a5.fr F1 (fun j hj => by rcases hj with rfl | rfl | rfl <;> omega)
  obtain ⟨g3, f', e5, P5, z5, F2⟩ := allInOne_ok b5 n'
  rw [co b5.1, ob, e5, ob]
  refine ⟨g3, P', W', X', K', f', rfl, ⟨?_, ?_, ?_, ?_, ?_, P5⟩, z1, z2, z3, z4, z5, F0.tr ((F1.mono (fun k hk => ⟨by omega, by omega⟩)).tr (F2.mono (fun k hk => pts_scs hk)))⟩
  · exact (F2.2 _ (by intro z; rcases z with z | z | z <;> omega)).trans b0
  · exact (F2.2 _ (by intro z; rcases z with z | z | z <;> omega)).trans b1
  · exact (F2.2 _ (by intro z; rcases z with z | z | z <;> omega)).trans b2
  · exact (F2.2 _ (by intro z; rcases z with z | z | z <;> omega)).trans b3
  · exact (F2.2 _ (by intro z; rcases z with z | z | z <;> omega)).trans b4
