/-- the tree is gone -/
def noT (x : Aux) : Aux := (x.1, ((-1 : Int), x.2.1.2), x.2.2)
theorem noT_good {n m : Nat} {x : Aux} (G : GAx n x) : GAx m (noT x) := ⟨G.1, Or.inl rfl, G.2.2⟩
theorem tdrop_ok {h : Hp} {x : Int × (Nat → Int) × (Nat → Int) × (Nat → Int)} (C : CTre h x) : ∃ h', fX10_drop 14 h = some h' ∧ CTre h' ((-1 : Int), x.2) ∧ Fr (fun k => k = 14) h h' := by
  obtain ⟨sz, hl, O, T, H, B, a, b, c, d, e, r⟩ := C
  unfold fX10_drop
  rw [pV (fs' := [vi (-1), vi sz, vr 15, vr 16, vr 17, vr 18, vi hl]) 0 a (by simp) rfl, ob]
  exact ⟨_, rfl, ⟨sz, hl, O, T, H, B, hput_eq, (hput_ne (by omega)).trans b, (hput_ne (by omega)).trans c, (hput_ne (by omega)).trans d, (hput_ne (by omega)).trans e, fun i hi => by simp at hi, fun i hi => by simp at hi, fun i hi => by simp at hi⟩, Fr.rf.put rfl⟩
theorem CI.notree {h h' : Hp} {s : Scn} {hist : List Scn} {x : Aux} {flt : Int} (C : CI h s hist x flt) (F : Fr (fun k => k = 14) h h') (T : CTre h' ((-1 : Int), x.2.1.2)) : CI h' s hist (noT x) flt := by
  obtain ⟨c1, c2, ⟨A, nx, c3⟩, c4, c5, c6, c7, c8, c9⟩ := C
  have e : ∀ k, k ≠ 14 → h'.2 k = h.2 k := fun k z => F.2 k z
  exact ⟨(e _ (by omega)).trans c1, c2.ag (fun j hj => e j (by obtain ⟨z1, z2⟩ := hj; omega)), ⟨A, nx, c3.ag F.1 (fun k hk => e k (by omega))⟩, c4.ag (fun k hk => e k (by omega)), T, c6.ag (fun k hk => e k (by omega)), c7.ag (fun k hk => e k (by omega)), c8.ag (fun k hk => e k (by omega)), c9.ag (fun k hk => e k (by omega))⟩
theorem c_undo {h : Hp} {s : Scn} {hist : List Scn} {x : Aux} {flt : Int} (C : CI h s hist x flt) (G : Good s hist x) :
    (hist = [] → ∃ h', fX11_undo 1 h = some (-1, h') ∧ CI h' s hist x 2 ∧ FC h h') ∧
    ∀ y ys, hist = y :: ys → ∃ h', fX11_undo 1 h = some ((ys.length : Int), h') ∧ CI h' y ys (noT x) 0 ∧ FC h h' := by
  obtain ⟨A, nx, c3⟩ := C.2.2.1
  have hl := c3.2.2.2.2.2.2.1
  constructor
  · intro hh
    unfold fX11_undo
    rw [gR 1 C.1 rfl, ob, gI 0 hl rfl, ob, hh, if_pos (by rfl), co C.1, ob, c_refuse C 2, ob]
    exact ⟨_, rfl, hh ▸ C.set 2, FC.put (by omega)⟩
  · intro y ys hh
    subst hh
    have C1 := C.set 0
    obtain ⟨d1, d2, ⟨A1, nx1, d3⟩, d4, d5, d6, d7, d8, d9⟩ := id C1
    obtain ⟨h2, nx2, e2, H2, N2, k2⟩ := bringBack_ok (G.2.1 y List.mem_cons_self).2.1 d3 d2
    have C2 : CI h2 y ys x 0 := ⟨(k2 1 (by omega) (by omega) (by intro z; obtain ⟨z1, z2⟩ := z; omega)).trans d1, N2, ⟨A1, nx2, H2⟩, d4.ag (fun k hk => k2 k (by omega) (by omega) (by intro z; obtain ⟨z1, z2⟩ := z; omega)), d5.ag (fun k hk => k2 k (by omega) (by omega) (by intro z; obtain ⟨z1, z2⟩ := z; omega)), d6.ag (fun k hk => k2 k (by omega) (by omega) (by intro z; obtain ⟨z1, z2⟩ := z; omega)), d7.ag (fun k hk => k2 k (by omega) (by omega) (by intro z; obtain ⟨z1, z2⟩ := z; omega)), d8.ag (fun k hk => k2 k (by omega) (by omega) (by intro z; obtain ⟨z1, z2⟩ := z; omega)), d9.ag (fun k hk => k2 k (by omega) (by omega) (by intro z; obtain ⟨z1, z2⟩ := z; omega))⟩
    obtain ⟨h3, e3, T3, F3⟩ := tdrop_ok C2.2.2.2.2.1
    have C3 := C2.notree F3 T3
    obtain ⟨A3, nx3, g3⟩ := C3.2.2.1
    obtain ⟨sz, hl2, O, T, H, Bw, t1, -⟩ := C2.2.2.2.2.1
    unfold fX11_undo
    rw [gR 1 C.1 rfl, ob, gI 0 hl rfl, ob, if_neg (by simp; omega), C.put1 0, ob, gR 1 d1 rfl, ob, gR 0 d1 rfl, ob, co d3.2.2.2.2.2.2.1, ob, e2, ob, gR 3 C2.1 rfl, ob, co t1, ob, e3, ob, gR 1 C3.1 rfl, ob, gI 0 g3.2.2.2.2.2.2.1 rfl, ob]
    exact ⟨h3, rfl, C3, fun k h1 h2 => (F3.2 k (by omega)).trans ((k2 k (by omega) (by omega) (by intro z; obtain ⟨z1, z2⟩ := z; omega)).trans (hput_ne (by omega)))⟩
