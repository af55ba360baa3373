section
variable {h h' : Hp} {s : Scn} {hist : List Scn} {x : Aux} {flt : Int}
theorem bo {h1 h2 : Hp} {s' : Scn} {hist' : List Scn} {x' : Aux} {flt' : Int} (G' : Good s' hist' x') (C1 : CI h1 s' hist' x' flt') (F2 : FM h1 h2) (R2 : RI h2 s' hist' x' flt') : Both h2 := ⟨s', hist', x', flt', G', C1.ag F2.1 F2.2, R2⟩
theorem refuse2 (G : Good s hist x) (C : CI h s hist x flt) (R : RI h s hist x flt) (z : Int) : ∃ h2 h3, putV (hput h 1 (BO z)) 11 62 19 (vi 0) = some h2 ∧ RI h2 s hist x 0 ∧ fX12_no 62 z h2 = some (-1, h3) ∧ Both h3 := by
  obtain ⟨h2, e2, R2, F2⟩ := (R.ag (FC.put (h := h) (q := 1) (c := BO z) (by omega))).set 0
  obtain ⟨h3, e3, R3, F3⟩ := r_no R2 z
  exact ⟨h2, h3, e2, R2, e3, bo G (C.set z) (F2.tr F3) R3⟩
theorem read2 (G : Good s hist x) (C : CI h s hist x flt) (R : RI h s hist x flt) : ∃ h2, putV (hput h 1 (BO 0)) 11 62 19 (vi 0) = some h2 ∧ RI h2 s hist x 0 ∧ CI (hput h 1 (BO 0)) s hist x 0 ∧ FM (hput h 1 (BO 0)) h2 ∧ Both h2 := by
  obtain ⟨h2, e2, R2, F2⟩ := (R.ag (FC.put (h := h) (q := 1) (c := BO 0) (by omega))).set 0
  exact ⟨h2, e2, R2, C.set 0, F2, bo G (C.set 0) F2 R2⟩
theorem change2 (G : Good s hist x) (R : RI h s hist x flt) (F : FC h h') : ∃ h2 h3, putV h' 11 62 19 (vi 0) = some h2 ∧ RI h2 s hist x 0 ∧ FM h' h2 ∧ fX12_change 62 h2 = some h3 ∧ RI h3 s ((s :: hist).take 20) x 0 ∧ FM h' h3 := by
  obtain ⟨h2, e2, R2, F2⟩ := (R.ag F).set 0
  obtain ⟨h3, e3, R3, F3⟩ := r_change R2 G
  exact ⟨h2, h3, e2, R2, F2, e3, R3, F2.tr F3⟩
def freshS (n : Nat) : Scn := (n, fun _ => 0, fun _ => 0, fun _ => 0, fun _ => 0, fun _ => 0)
theorem mx_0 {n : Nat} (hn : 1 ≤ n) : mx (fun _ => (0 : Int)) n = 1 := by
  induction n with
  | zero => omega
  | succ n ih =>
    simp only [mx]
    cases n with
    | zero => simp only [mx]; omega
    | succ n => rw [ih (by omega)]; omega
theorem RGS_0 (n : Nat) : RGS n (fun _ => 0) := fun i _ => ⟨Int.le_refl _, mx_nonneg _ _⟩
theorem freshS_good {n : Nat} (h1 : 1 ≤ n) (h2 : n ≤ 12) : GSc (freshS n) :=
  ⟨h1, h2, fun _ _ => ⟨by show (-1000 : Int) ≤ 0; omega, by show (0 : Int) ≤ 1000; omega⟩, fun _ _ => ⟨by show (0 : Int) ≤ 0; omega, by show (0 : Int) ≤ 10000; omega⟩, fun _ _ _ _ => rfl, fun _ _ => rfl, fun _ _ => ⟨by show (0 : Int) ≤ 0; omega, by show (0 : Int) ≤ 1000; omega⟩, fun _ _ _ _ => rfl, fun _ _ => rfl, fun _ _ => Or.inl rfl, fun _ _ _ _ => rfl, fun _ _ => rfl, RGS_0 n⟩
theorem c_restart (C : CI h s hist x flt) {n : Nat} (h1 : 1 ≤ n) (h2 : n ≤ 12) : ∃ h', fX7_restart 2 n h = some h' ∧ CI h' (freshS n) hist x flt ∧ FC h h' := by
  obtain ⟨P, W, X, K, f, S, -⟩ := C.2.1
  obtain ⟨h', P', W', X', K', f', e, S', z1, z2, z3, z4, z5, F⟩ := restart_ok S n
  refine ⟨h', e, C.scene F.1 F.2 ⟨P', W', X', K', f', ?_, z1, z2, z3, z4, fun i hi => z5 i (by have : i < n := hi; omega)⟩, FC.scene F.2⟩
  have : mx (sf (freshS n)) (sn (freshS n)) = 1 := mx_0 h1
  rw [this]; exact S'
theorem r_begin (R : RI h s hist x flt) (hh : ∀ y ∈ hist, sn y ≤ 12) {n : Nat} (h1 : 1 ≤ n) (h2 : n ≤ 12) : ∃ h', fX12_begin 62 n h = some h' ∧ RI h' (freshS n) hist (noT x) flt ∧ FM h h' := by
  obtain ⟨⟨pa, fp, sm, Z, P, W, X, K, N, a1, M, S, ⟨a4, a5, a6, a7⟩, a8⟩, ⟨E, b1, b2⟩, ⟨O, T, H, d1, d2, d3, d4⟩, ⟨r1, r2, e1, e2, e3⟩, ⟨r, f1, f2⟩, ⟨q1, q2, q3, q4, q5, g1, g2, g3, g4, g5⟩⟩ := R
  obtain ⟨h', P', W', X', K', N', e, o, M', y1, y2, y3, y4, y5, F⟩ := begin_ok a1 M n
  have k : ∀ j, 69 ≤ j → h'.2 j = h.2 j := fun j hj => F.2 j (by omega)
  refine ⟨h', e, ⟨⟨pa, fp, sm, _, P', W', X', K', N', o, M', ⟨rfl, fun i hi => ?_, fun i hi => ?_, fun i hi => ?_, fun i hi => ?_, fun i hi => ?_⟩, ⟨a4, a5, a6, fun j y hy => ?_⟩, a8⟩, ⟨E, (k _ (by omega)).trans b1, b2⟩, ⟨O, T, H, (k _ (by omega)).trans d1, (k _ (by omega)).trans d2, (k _ (by omega)).trans d3, fun i hi => by simp [noT] at hi, fun i hi => by simp [noT] at hi, fun i hi => by simp [noT] at hi⟩, ⟨r1, r2, (k _ (by omega)).trans e1, (k _ (by omega)).trans e2, e3⟩, ⟨r, (k _ (by omega)).trans f1, f2⟩, ⟨q1, q2, q3, q4, q5, (k _ (by omega)).trans g1, (k _ (by omega)).trans g2, (k _ (by omega)).trans g3, (k _ (by omega)).trans g4, (k _ (by omega)).trans g5⟩⟩, ⟨F.1, fun j hj => F.2 j (by omega)⟩⟩
  · rw [y1, if_pos (by omega)]; rfl
  · rw [y2, if_pos (by omega)]; rfl
  · rw [y3, if_pos (by omega)]; rfl
  · rw [y4, if_pos (by omega)]; rfl
  · rw [y5, if_pos (by have : i < n := hi; omega)]; rfl
  · obtain ⟨t0, t1, t2, t3, t4, t5⟩ := a7 j y hy
    have hy12 := hh y (List.mem_of_getElem? hy)
    exact ⟨by rw [ups_at, if_neg (by omega)]; exact t0, fun i hi => by rw [y1, if_neg (by omega)]; exact t1 i hi, fun i hi => by rw [y2, if_neg (by omega)]; exact t2 i hi, fun i hi => by rw [y3, if_neg (by omega)]; exact t3 i hi, fun i hi => by rw [y4, if_neg (by omega)]; exact t4 i hi, fun i hi => by rw [y5, if_neg (by omega)]; exact t5 i hi⟩
theorem hist12 (G : Good s hist x) : ∀ y ∈ (s :: hist).take 20, sn y ≤ 12 := fun y hy => (take20_good G.1 G.2.1 y hy).2.1
end
theorem both_things {h : Hp} (B : Both h) (a : Int) : ∃ r h1 h2, fX11_things 1 a h = some (r, h1) ∧ fX12_things 62 a h1 = some (r, h2) ∧ Both h2 := by
  obtain ⟨s, hist, x, flt, G, C, R⟩ := B
  have hn := G.1.2.1
  by_cases e : 1 ≤ a ∧ a ≤ 12
  · obtain ⟨n, rfl⟩ := Int.eq_ofNat_of_zero_le (show 0 ≤ a by omega)
    obtain ⟨h1, e1, C1, F1⟩ := c_change C hn
    obtain ⟨h2, e2, C2, F2⟩ := c_restart C1 (n := n) (by omega) (by omega)
    obtain ⟨h3, e3, T3, F3⟩ := tdrop_ok C2.2.2.2.2.1
    have C3 := C2.notree F3 T3
    obtain ⟨sz, hl2, O, T, H, Bw, t1, -⟩ := C2.2.2.2.2.1
    obtain ⟨P, W, X, K, f, S, -⟩ := C1.2.1
    have F4 : FC h h3 := F1.tr (F2.tr (fun k z1 z2 => F3.2 k (by omega)))
    obtain ⟨h4, h5, e4, R4, F5, e5, R5, F6⟩ := change2 G R F4
    obtain ⟨h6, e6, R6, F7⟩ := r_begin R5 (hist12 G) (n := n) (by omega) (by omega)
    refine ⟨1, h3, h6, ?_, ?_, bo ⟨freshS_good (by omega) (by omega), take20_good G.1 G.2.1, noT_good G.2.2⟩ C3 (F6.tr F7) R6⟩
    · unfold fX11_things
      rw [if_neg (by omega), if_pos (by omega), co C.1, ob, C.cr1, ob, e1, ob, gR 0 C1.1 rfl, ob, co S.1, ob, e2, ob, gR 3 C2.1 rfl, ob, co t1, ob, e3, ob]
    · unfold fX12_things
      rw [e4, ob, if_neg (by omega), if_pos (by omega), R4.cb, ob, e5, ob, R5.cb, ob, e6, ob]
  · obtain ⟨h2, h3, e2, R2, e3, B3⟩ := refuse2 G C R 1
    refine ⟨0, hput h 1 (BO 1), h3, ?_, ?_, B3⟩
    · have b : fX11_things_11 1 h = some (0, hput h 1 (BO 1)) := by
        unfold fX11_things_11; rw [co C.1, ob, c_deny C 1, ob, cbo_n (Or.inl rfl), ob]
      unfold fX11_things
      by_cases e1 : a < 1
      · rw [if_pos e1, b]
      · rw [if_neg e1, if_neg (by omega), b]
    · have b : fX12_things_16 62 h2 = some (0, h3) := by
        unfold fX12_things_16; rw [R2.cb, ob, e3, ob]
      unfold fX12_things
      rw [e2, ob]
      by_cases e1 : a < 1
      · rw [if_pos e1, b]
      · rw [if_neg e1, if_neg (by omega), b]
