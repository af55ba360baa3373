theorem sheet67 {h : Hp} {pa fp sk sm jn li fl : Int} {E : Nat → Int} (o : h.2 62 = some (MO pa fp sk sm jn li fl)) (e : h.2 69 = some (arr 1 8 E)) : ∃ E', fX12_sheet_67 FU 62 0 h = some (sm, hput h 69 (arr 1 8 E')) ∧ Eqn 8 E' (fun _ => 0) := by
  have z := lp (fun N i (F : Nat → Int) => fX12_sheet_67 N 62 i (hput h 69 (arr 1 8 F))) (fun i F => Eqn i F (fun _ => 0)) 8 (fun r => ∃ E', r = some (sm, hput h 69 (arr 1 8 E')) ∧ Eqn 8 E' (fun _ => 0)) ?_ ?_ FU 0 E (Nat.zero_le _) (FU_lt (by omega)) (fun j hj => by omega)
  · rw [hput_self e] at z; exact z
  · intro N i F hi hF
    simp only [fX12_sheet_67]
    rw [if_neg (by omega), gR 10 ((hput_ne (by omega)).trans o) rfl, ob, ast_of i hput_eq rfl hi, ob, hput_hput, c32_n (by omega) (by omega), ob]
    refine ⟨_, fun j hj => ?_, rfl⟩
    rw [ups_at]
    by_cases z : j = i
    · rw [if_pos z]
    · rw [if_neg z]; exact hF j (by omega)
  · intro N F hF
    simp only [fX12_sheet_67, fX12_sheet_86]
    rw [if_pos (by omega), gI 9 ((hput_ne (by omega)).trans o) rfl, ob]
    exact ⟨F, rfl, hF⟩
theorem both_sheet {h : Hp} (B : Both h) (a b : Int) : ∃ r h1 h2, fX11_sheet 1 a b h = some (r, h1) ∧ fX12_sheet 62 a b h1 = some (r, h2) ∧ Both h2 := by
  obtain ⟨s, hist, x, flt, G, C, R⟩ := B
  have ref : ∀ z : Int, ∃ h2 h3, ((cob h 10 1).bind fun _ => (fX11_refuse 1 z h).bind fun p2 => some (p2.1, p2.2)) = some (-1, hput h 1 (BO z)) ∧ putV (hput h 1 (BO z)) 11 62 19 (vi 0) = some h2 ∧ ((cob h2 11 62).bind fun _ => (fX12_no 62 z h2).bind fun p2 => some (p2.1, p2.2)) = some (-1, h3) ∧ Both h3 := by
    intro z
    obtain ⟨h2, h3, e2, R2, e3, B3⟩ := refuse2 G C R z
    exact ⟨h2, h3, by rw [co C.1, ob, c_refuse C z, ob], e2, by rw [R2.cb, ob, e3, ob], B3⟩
  have good : ∀ m : Int, (a = 4 → m = 0) → (a ≠ 4 → m = b) → 0 ≤ a → a ≤ 4 → 0 ≤ m → m ≤ 8 → ∃ h1 h2 h3, fX11_sheet_47 1 a b h = some (m, h1) ∧ putV h1 11 62 19 (vi 0) = some h2 ∧ fX12_sheet_46 62 a b h2 = some (m, h3) ∧ Both h3 := by
    intro m m1 m2 a1 a2 m3 m4
    have C1 := C.set 0
    obtain ⟨n, E, S, -⟩ := C1.2.2.2.1
    obtain ⟨h1, E', e1, S1, z1, F1⟩ := renew_ok S a m
    have C2 : CI h1 s hist ((a, m, fun _ => 0), x.2) 0 := C1.she F1 ⟨m, E', S1, fun z => by have z : a = -1 := z; omega, fun _ => ⟨rfl, z1⟩⟩
    have F2 : FC h h1 := (FC.put (by omega)).tr (FC.she F1)
    obtain ⟨h2, e2, R2, F3⟩ := (R.ag F2).set 0
    obtain ⟨pa, fp, sm, o⟩ := R2.obj
    obtain ⟨E2, b1, -⟩ := R2.2.1
    obtain ⟨E3, e3, z3⟩ := sheet67 (h := hput h2 62 (MO pa fp a m x.2.1.1 (x.2.2.2.1 : Int) 0)) hput_eq ((hput_ne (by omega)).trans b1)
    have R3 := R2.she (h' := hput (hput h2 62 (MO pa fp a m x.2.1.1 (x.2.2.2.1 : Int) 0)) 69 (arr 1 8 E3)) (k := a) (m' := m) (E' := fun _ => 0) o ((Fr.rf.put (Or.inl rfl)).put (Or.inr rfl)) ((hput_ne (by omega)).trans hput_eq) hput_eq (fun _ => rfl) (fun _ => z3)
    refine ⟨h1, h2, _, ?_, e2, ?_, bo (show Good s hist ((a, m, fun _ => 0), x.2) from ⟨G.1, G.2.1, Or.inr ⟨a1, a2, m3, m4, m1⟩, G.2.2.2⟩) C2 (F3.tr ((FM.put (q := 62) (by omega)).tr (FM.put (q := 69) (by omega)))) R3⟩
    · unfold fX11_sheet_47
      have k : fX11_sheet_67 1 m a 12 (hput h 1 (BO 0)) = some (m, h1) := by
        unfold fX11_sheet_67; rw [co S.1, ob, e1, ob, gR 2 C2.1 rfl, ob, gI 1 S1.1 rfl, ob]
      rw [C.put1 0, ob, gR 2 C1.1 rfl, ob]
      by_cases z : a = 4
      · rw [if_pos z]; have e := m1 z; subst e; exact k
      · rw [if_neg z, ← m2 z]; exact k
    · unfold fX12_sheet_46
      have k : fX12_sheet_62 62 m 62 (hput h2 62 (MO pa fp a sm x.2.1.1 (x.2.2.2.1 : Int) 0)) = some (m, hput (hput h2 62 (MO pa fp a m x.2.1.1 (x.2.2.2.1 : Int) 0)) 69 (arr 1 8 E3)) := by
        unfold fX12_sheet_62
        rw [pV (fs' := [vr 63, vr 64, vr 65, vr 66, vr 67, vr 68, vi pa, vi fp, vi a, vi m, vr 69, vi x.2.1.1, vr 70, vr 71, vr 72, vr 73, vr 74, vr 75, vi (x.2.2.2.1 : Int), vi 0, vr 76, vr 77, vr 78, vr 79, vr 80]) 9 hput_eq (by simp) rfl, ob, hput_hput, e3]
      rw [pV (fs' := [vr 63, vr 64, vr 65, vr 66, vr 67, vr 68, vi pa, vi fp, vi a, vi sm, vr 69, vi x.2.1.1, vr 70, vr 71, vr 72, vr 73, vr 74, vr 75, vi (x.2.2.2.1 : Int), vi 0, vr 76, vr 77, vr 78, vr 79, vr 80]) 8 o (by simp) rfl, ob]
      by_cases z : a = 4
      · rw [if_pos z]; have e := m1 z; subst e; exact k
      · rw [if_neg z, ← m2 z]; exact k
  unfold fX11_sheet fX12_sheet
  simp only [fX11_sheet_9, fX12_sheet_25, fX11_sheet_32, fX12_sheet_31]
  by_cases a1 : a < 0
  · obtain ⟨h2, h3, r1, r2, r3, r4⟩ := ref 1
    exact ⟨-1, _, h3, by rw [if_pos a1, r1], by rw [r2, ob, if_pos a1, r3], r4⟩
  by_cases a2 : a ≤ 4
  · by_cases a3 : a = 4
    · obtain ⟨h1, h2, h3, r1, r2, r3, r4⟩ := good 0 (fun _ => rfl) (fun z => absurd a3 z) (by omega) (by omega) (by omega) (by omega)
      exact ⟨0, h1, h3, by rw [if_neg a1, if_pos a2, if_pos a3, if_pos a3, r1], by rw [r2, ob, if_neg a1, if_neg (by omega), if_pos (by omega), if_pos (by omega), r3], r4⟩
    · by_cases b1 : b ≤ 8
      · by_cases b2 : 0 ≤ b
        · obtain ⟨h1, h2, h3, r1, r2, r3, r4⟩ := good b (fun z => absurd z a3) (fun _ => rfl) (by omega) (by omega) b2 b1
          exact ⟨b, h1, h3, by rw [if_neg a1, if_pos a2, if_neg a3, if_pos b1, if_neg a3, if_pos b2, r1], by rw [r2, ob, if_neg a1, if_neg (by omega), if_neg (by omega), if_pos b1, if_neg (by omega), if_pos b2, r3], r4⟩
        · obtain ⟨h2, h3, r1, r2, r3, r4⟩ := ref 4
          exact ⟨-1, _, h3, by rw [if_neg a1, if_pos a2, if_neg a3, if_pos b1, if_neg a3, if_neg b2, r1], by rw [r2, ob, if_neg a1, if_neg (by omega), if_neg (by omega), if_pos b1, if_neg (by omega), if_neg b2, r3], r4⟩
      · obtain ⟨h2, h3, r1, r2, r3, r4⟩ := ref 1
        exact ⟨-1, _, h3, by rw [if_neg a1, if_pos a2, if_neg a3, if_neg b1, r1], by rw [r2, ob, if_neg a1, if_neg (by omega), if_neg (by omega), if_neg b1, r3], r4⟩
  · obtain ⟨h2, h3, r1, r2, r3, r4⟩ := ref 1
    exact ⟨-1, _, h3, by rw [if_neg a1, if_neg a2, r1], by rw [r2, ob, if_neg a1, if_pos (by omega), r3], r4⟩
theorem both_entry {h : Hp} (B : Both h) (a v : Int) (hv : -9223372036854775808 ≤ v ∧ v ≤ 9223372036854775807) : ∃ r h1 h2, fX11_entry 1 a v h = some (r, h1) ∧ fX12_entry 62 a v h1 = some (r, h2) ∧ Both h2 := by
  obtain ⟨s, hist, x, flt, G, C, R⟩ := B
  have ref : ∀ z : Int, ∃ h2 h3, ((cob h 10 1).bind fun _ => (fX11_deny 1 z h).bind fun p2 => (cbo p2.1).bind fun _ => some (p2.1, p2.2)) = some (0, hput h 1 (BO z)) ∧ putV (hput h 1 (BO z)) 11 62 19 (vi 0) = some h2 ∧ RI h2 s hist x 0 ∧ ((cob h2 11 62).bind fun _ => (fX12_no 62 z h2).bind fun p2 => some ((0 : Int), p2.2)) = some (0, h3) ∧ Both h3 := by
    intro z
    obtain ⟨h2, h3, e2, R2, e3, B3⟩ := refuse2 G C R z
    exact ⟨h2, h3, by rw [co C.1, ob, c_deny C z, ob, cbo_n (Or.inl rfl), ob], e2, R2, by rw [R2.cb, ob, e3, ob], B3⟩
  obtain ⟨n, E, S, q1, q2⟩ := C.2.2.2.1
  unfold fX11_entry fX12_entry
  simp only [fX11_entry_22, fX12_entry_21, fX11_entry_43, fX12_entry_41]
  by_cases k1 : x.1.1 = -1
  · obtain ⟨h2, h3, r1, r2, R2, r3, r4⟩ := ref 2
    obtain ⟨pa, fp, sm, o⟩ := R2.obj
    exact ⟨0, _, h3, by rw [gR 2 C.1 rfl, ob, gI 0 S.1 rfl, ob, if_pos k1, r1], by rw [r2, ob, gI 8 o rfl, ob, if_pos k1, r3], r4⟩
  by_cases k2 : x.1.1 = 4
  · obtain ⟨h2, h3, r1, r2, R2, r3, r4⟩ := ref 2
    obtain ⟨pa, fp, sm, o⟩ := R2.obj
    exact ⟨0, _, h3, by rw [gR 2 C.1 rfl, ob, gI 0 S.1 rfl, ob, if_neg k1, ob, gI 0 S.1 rfl, ob, if_pos k2, r1], by rw [r2, ob, gI 8 o rfl, ob, if_neg k1, ob, if_pos k2, r3], r4⟩
  obtain ⟨en, eE⟩ := q2 k1
  by_cases a1 : 0 ≤ a ∧ a < n
  · obtain ⟨i, rfl⟩ := Int.eq_ofNat_of_zero_le a1.1
    have g := G.2.2.1
    have C1 := C.set 0
    obtain ⟨n', E1, S1, -, q3⟩ := C1.2.2.2.1
    obtain ⟨en', eE'⟩ := q3 k1
    have hi : i < 8 := by rcases g with z | z <;> omega
    have ew := write_ok S1 hi v
    have F1 : Fr (shs 12) (hput h 1 (BO 0)) (hput (hput h 1 (BO 0)) 13 (arr 1 8 (ups E1 i (nrw x.1.1 v)))) := Fr.rf.put (Or.inr rfl)
    have ups1 : ∀ {F F' : Nat → Int} {z : Int}, Eqn 8 F F' → Eqn 8 (ups F i z) (ups F' i z) := by
      intro F F' z hz j hj
      rw [ups_at, ups_at]; by_cases y : j = i
      · rw [if_pos y, if_pos y]
      · rw [if_neg y, if_neg y]; exact hz j hj
    have C2 : CI (hput (hput h 1 (BO 0)) 13 (arr 1 8 (ups E1 i (nrw x.1.1 v)))) s hist ((x.1.1, x.1.2.1, ups x.1.2.2 i (nrw x.1.1 v)), x.2) 0 := C1.she F1 ⟨n', _, ⟨(hput_ne (by omega)).trans S1.1, hput_eq⟩, fun z => absurd z k1, fun _ => ⟨en', ups1 eE'⟩⟩
    have F2 : FC h (hput (hput h 1 (BO 0)) 13 (arr 1 8 (ups E1 i (nrw x.1.1 v)))) := (FC.put (by omega)).tr (FC.she F1)
    obtain ⟨h2, e2, R2, F3⟩ := (R.ag F2).set 0
    obtain ⟨⟨pa, fp, sm, Z, P, W, X, K, N, o, -, -, -, q5⟩, ⟨E2, b1, b2⟩, -⟩ := id R2
    have R3 := R2.she (h' := hput h2 69 (arr 1 8 (ups E2 i (nrw x.1.1 v)))) (k := x.1.1) (m' := x.1.2.1) (E' := ups x.1.2.2 i (nrw x.1.1 v)) o (Fr.rf.put (Or.inr rfl)) ((hput_ne (by omega)).trans o) hput_eq (fun _ => q5 k1) (fun _ => ups1 (b2 k1))
    refine ⟨1, hput (hput h 1 (BO 0)) 13 (arr 1 8 (ups E1 i (nrw x.1.1 v))), hput h2 69 (arr 1 8 (ups E2 i (nrw x.1.1 v))), ?_, ?_, bo (show Good s hist ((x.1.1, x.1.2.1, ups x.1.2.2 i (nrw x.1.1 v)), x.2) from ⟨G.1, G.2.1, G.2.2⟩) C2 (F3.tr (FM.put (q := 69) (by omega))) R3⟩
    · rw [gR 2 C.1 rfl, ob, gI 0 S.1 rfl, ob, if_neg k1, ob, gI 0 S.1 rfl, ob, if_neg k2, if_neg (by omega), ob, gI 1 S.1 rfl, ob, if_pos a1.2, C.put1 0, ob, gR 2 C1.1 rfl, ob, co S1.1, ob, ew, ob]
    · have hk : 0 ≤ x.1.1 ∧ x.1.1 ≤ 3 := by rcases g with z | z <;> omega
      have hb : ∀ k : Int, 0 ≤ k → k ≤ 3 → 0 ≤ bShl 8 k ∧ bShl 8 k ≤ 64 := by
        intro k h1 h2
        have : k = 0 ∨ k = 1 ∨ k = 2 ∨ k = 3 := by omega
        rcases this with rfl | rfl | rfl | rfl <;> decide
      have hb2 := hb x.1.1 hk.1 hk.2
      rw [e2, ob, gI 8 o rfl, ob, if_neg k1, ob, if_neg k2, if_neg (by omega), gI 9 o rfl, ob, if_pos (by rw [q5 k1, ← en]; omega), ob, c32_n (by omega) (by omega), ob, gR 10 o rfl, ob, ast_of i b1 rfl hi, ob, nrw_ok hk.1 hk.2 hv]
  · obtain ⟨h2, h3, r1, r2, R2, r3, r4⟩ := ref 1
    obtain ⟨⟨pa, fp, sm, Z, P, W, X, K, N, o, -, -, -, q5⟩, -⟩ := id R2
    refine ⟨0, hput h 1 (BO 1), h3, ?_, ?_, r4⟩
    · rw [gR 2 C.1 rfl, ob, gI 0 S.1 rfl, ob, if_neg k1, ob, gI 0 S.1 rfl, ob, if_neg k2]
      by_cases a2 : a < 0
      · rw [if_pos a2, r1]
      · rw [if_neg a2, ob, gI 1 S.1 rfl, ob, if_neg (by omega), r1]
    · rw [r2, ob, gI 8 o rfl, ob, if_neg k1, ob, if_neg k2]
      by_cases a2 : a < 0
      · rw [if_pos a2, r3]
      · rw [if_neg a2, gI 9 o rfl, ob, if_neg (by rw [q5 k1, ← en]; omega), r3]
