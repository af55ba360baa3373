section
variable {h h' : Hp} {s : Scn} {hist : List Scn} {x : Aux} {flt : Int}
theorem CI.nmr (C : CI h s hist x flt) (F : Fr (fun k => k = 49) h h') (N : ∃ r, h'.2 49 = some (arr 1 13 r)) : CI h' s hist x flt := by
  obtain ⟨c1, c2, ⟨A, nx, c3⟩, c4, c5, c6, c7, c8, ⟨⟨r, a, b⟩, -, d⟩⟩ := C
  have e : ∀ k, k ≠ 49 → h'.2 k = h.2 k := fun k z => F.2 k z
  exact ⟨(e _ (by omega)).trans c1, c2.ag (fun j hj => e j (by obtain ⟨z1, z2⟩ := hj; omega)), ⟨A, nx, c3.ag F.1 (fun k hk => e k (by omega))⟩, c4.ag (fun k hk => e k (by omega)), c5.ag (fun k hk => e k (by omega)), c6.ag (fun k hk => e k (by omega)), c7.ag (fun k hk => e k (by omega)), c8.ag (fun k hk => e k (by omega)), ⟨⟨r, (e _ (by omega)).trans a, b⟩, N, (e _ (by omega)).trans d⟩⟩
theorem CI.nms (C : CI h s hist x flt) : ∃ r r2, h.2 47 = some (obj 4 [vr 48, vr 49]) ∧ h.2 48 = some (arr 1 169 r) ∧ h.2 49 = some (arr 1 13 r2) ∧ ∀ k t, k + t < 13 → r (13 * k + t) = won t k := by
  obtain ⟨⟨r, a, b⟩, ⟨r2, c⟩, d⟩ := C.2.2.2.2.2.2.2.2
  exact ⟨r, r2, d, a, c, b⟩
theorem c_allOf (C : CI h s hist x flt) {n : Nat} (hn : n ≤ 12) : fX5_allOf 47 n h = some (won n 0, h) := by
  obtain ⟨r, r2, e0, e1, e2, q⟩ := C.nms
  unfold fX5_allOf
  have := q 0 n (by omega)
  rw [show 13 * 0 + n = n by omega] at this
  rw [gR 0 e0 rfl, ob, ald_of n e1 rfl (by omega), ob, this]
theorem c_withHeaps (C : CI h s hist x flt) {n k : Nat} (hn : n ≤ 12) (hk : k ≤ 12) : ∃ h', fX5_withHeaps 47 n k h = some (stg n k, h') ∧ CI h' s hist x flt ∧ FC h h' := by
  obtain ⟨r, r2, e0, e1, e2, q⟩ := C.nms
  obtain ⟨G, e3, hG⟩ := fillL 0 (by omega) e2
  unfold fX5_withHeaps
  rw [gR 1 e0 rfl, ob, e3, ob, gR 1 ((hput_ne (by omega)).trans e0) rfl, ob, ast_of (i := 0) 0 hput_eq rfl (by omega), ob, hput_hput]
  have L : ∃ A, fX5_withHeaps_17 FU 47 n k ((1 : Nat) : Int) (hput h 49 (arr 1 13 (ups G 0 1))) = fX5_withHeaps_78 47 k (hput h 49 (arr 1 13 A)) ∧ ∀ j, j < 13 → A j = stg n j := by
    refine lp (fun N t (A : Nat → Int) => fX5_withHeaps_17 N 47 n k t (hput h 49 (arr 1 13 A))) (fun t A => 1 ≤ t ∧ ∀ j, j < 13 → A j = stg (t - 1) j) (n + 1) (fun o => ∃ A, o = fX5_withHeaps_78 47 k (hput h 49 (arr 1 13 A)) ∧ ∀ j, j < 13 → A j = stg n j) ?_ ?_ FU 1 (ups G 0 1) (by omega) (FU_lt (by omega)) ⟨Nat.le_refl _, fun j hj => ?_⟩
    · intro N t A ht ⟨h1, hA⟩
      have In : ∃ A', fX5_withHeaps_25 (fX5_withHeaps_17 N) FU 47 n k t t (hput h 49 (arr 1 13 A)) = fX5_withHeaps_65 (fX5_withHeaps_17 N) 47 n k t (hput h 49 (arr 1 13 A')) ∧ ∀ j, 1 ≤ j → j < 13 → A' j = stg t j := by
        rw [show (t : Int) = ((t : Nat) : Int) - ((0 : Nat) : Int) by omega]
        have z := lp (fun N' d (A : Nat → Int) => fX5_withHeaps_25 (fX5_withHeaps_17 N) N' 47 n k t ((t : Int) - d) (hput h 49 (arr 1 13 A))) (fun d A => (∀ j, j ≤ t - d → A j = stg (t - 1) j) ∧ ∀ j, t - d < j → j < 13 → A j = stg t j) t (fun o => ∃ A', o = fX5_withHeaps_65 (fX5_withHeaps_17 N) 47 n k t (hput h 49 (arr 1 13 A')) ∧ ∀ j, 1 ≤ j → j < 13 → A' j = stg t j) ?_ ?_ FU 0 A (Nat.zero_le _) (FU_lt (by omega)) ⟨fun j hj => hA j (by omega), fun j hj hj2 => by rw [hA j hj2, stg_big _ j (by omega), stg_big _ j (by omega)]⟩
        · rw [show (t : Int) - ((0 : Nat) : Int) = (t : Int) by omega] at z ⊢; exact z
        · intro N' d A hd ⟨a1, a2⟩
          obtain ⟨u, hu⟩ : ∃ u, t - d = u + 1 := ⟨t - d - 1, by omega⟩
          obtain ⟨t', ht'⟩ : ∃ t', t = t' + 1 := ⟨t - 1, by omega⟩
          have b0 := stg_b (n := t) (k := u + 1) (by omega) (by omega)
          have eS : stg t (u + 1) = ((u + 1 : Nat) : Int) * stg (t - 1) (u + 1) + stg (t - 1) u := by rw [ht']; rfl
          have e1' := a1 (u + 1) (by omega); have e2' := a1 u (by omega)
          rw [fX5_withHeaps_25, if_neg (by omega), gR 1 ((hput_ne (by omega)).trans e0) rfl, ob, ob, ald_of (u + 1) hput_eq (by omega) (by omega), ob, ob, ald_of u hput_eq (by omega) (by omega), ob, e1', e2', show (t : Int) - d = ((u + 1 : Nat) : Int) by omega, ← eS, c64_n (by omega) (by omega), ob, ast_of (u + 1) hput_eq rfl (by omega), ob, hput_hput, c32_n (by omega) (by omega), ob]
          refine ⟨ups A (u + 1) (stg t (u + 1)), ⟨fun j hj => ?_, fun j hj hj2 => ?_⟩, ?_⟩
          · rw [ups_at, if_neg (by omega)]; exact a1 j (by omega)
          · rw [ups_at]
            by_cases z : j = u + 1
            · rw [if_pos z, z]
            · rw [if_neg z]; exact a2 j (by omega) hj2
          · rw [show ((u + 1 : Nat) : Int) + -1 = (t : Int) - ((d + 1 : Nat) : Int) by omega]
        · intro N' A ⟨a1, a2⟩
          rw [fX5_withHeaps_25, if_pos (by omega)]
          exact ⟨A, rfl, fun j hj hj2 => a2 j (by omega) hj2⟩
      obtain ⟨A', e4, hA'⟩ := In
      refine ⟨ups A' 0 0, ⟨by omega, fun j hj => ?_⟩, ?_⟩
      · rw [ups_at, show t + 1 - 1 = t by omega]
        by_cases z : j = 0
        · rw [if_pos z, z]
          obtain ⟨t', ht'⟩ : ∃ t', t = t' + 1 := ⟨t - 1, by omega⟩
          rw [ht']; rfl
        · rw [if_neg z]; exact hA' j (by omega) hj
      · rw [fX5_withHeaps_17, if_neg (by omega), e4, fX5_withHeaps_65, gR 1 ((hput_ne (by omega)).trans e0) rfl, ob, ast_of (i := 0) 0 hput_eq rfl (by omega), ob, hput_hput, c32_n (by omega) (by omega), ob]; rfl
    · intro N A ⟨h1, hA⟩
      rw [fX5_withHeaps_17, if_pos (by omega)]
      exact ⟨A, rfl, fun j hj => by rw [hA j hj]; rfl⟩
    · rw [ups_at]
      cases j with
      | zero => rfl
      | succ j => rw [if_neg (by omega), hG _ hj]; rfl
  obtain ⟨A, e4, hA⟩ := L
  have e4' : fX5_withHeaps_17 FU 47 n k 1 (hput h 49 (arr 1 13 (ups G 0 1))) = fX5_withHeaps_78 47 k (hput h 49 (arr 1 13 A)) := e4
  refine ⟨hput h 49 (arr 1 13 A), ?_, C.nmr (Fr.rf.put rfl) ⟨A, hput_eq⟩, FC.put (q := 49) (by omega)⟩
  rw [e4', fX5_withHeaps_78, gR 1 ((hput_ne (by omega)).trans e0) rfl, ob, ald_of k hput_eq rfl (by omega), ob, hA k (by omega)]
end
theorem both_many {h : Hp} (B : Both h) (a b : Int) : ∃ r h1 h2, fX11_many 1 a b h = some (r, h1) ∧ fX12_many 62 a b h1 = some (r, h2) ∧ Both h2 := by
  obtain ⟨s, hist, x, flt, G, C, R⟩ := B
  unfold fX11_many fX12_many
  simp only [fX11_many_20, fX12_many_25]
  by_cases e : (0 ≤ a ∧ a ≤ 12) ∧ 0 ≤ b ∧ b ≤ 12
  · obtain ⟨n, rfl⟩ := Int.eq_ofNat_of_zero_le e.1.1
    obtain ⟨k, rfl⟩ := Int.eq_ofNat_of_zero_le e.2.1
    have C1 := C.set 0
    obtain ⟨r, r2, e0, -⟩ := C1.nms
    by_cases k0 : k = 0
    · subst k0
      obtain ⟨h2, e2, R2, C1, F2, B2⟩ := read2 G C R
      have L : fX12_many_47 FU n 0 0 h2 = some (won n 0, h2) := by
        rw [← bell_eq n (by omega)]
        refine lpsum (fun N i c => fX12_many_47 N n c i h2) (fun j => stg n j) (n + 1) 0 0 56693912375296 _ (by omega) (by omega) (fun i hi => by omega) (fun i hi => by have := stg_b (n := n) (k := i) (by omega) (by omega); omega) ?_ ?_
        · intro N i c _ hi h3 h4
          have := stg_b (n := n) (k := i) (by omega) (by omega)
          rw [fX12_many_47, if_neg (by omega), stirling_ok h2 20 n i (by omega) (by omega) (by omega), ob, c64_n (by show -9223372036854775808 ≤ c + stg n i; omega) (by show c + stg n i ≤ 9223372036854775807; omega), ob, c32_n (by omega) (by omega), ob]; rfl
        · intro N
          rw [fX12_many_47, if_pos (by omega), fX12_many_68, Int.zero_add]
      refine ⟨won n 0, hput h 1 (BO 0), h2, ?_, ?_, B2⟩
      · rw [if_neg (by omega), if_neg (by omega), if_neg (by omega), if_pos (by omega), C.put1 0, ob, if_pos (by omega), gR 10 C1.1 rfl, ob, co e0, ob, c_allOf C1 (by omega), ob, fX11_many_56]
      · rw [e2, ob, if_neg (by omega), if_neg (by omega), if_neg (by omega), if_pos (by omega), if_pos (by omega), L]
    · obtain ⟨h1, e1, C2, F1⟩ := c_withHeaps C1 (n := n) (k := k) (by omega) (by omega)
      obtain ⟨h2, e2, R2, F2⟩ := (R.ag ((FC.put (q := 1) (by omega)).tr F1)).set 0
      refine ⟨stg n k, h1, h2, ?_, ?_, bo G C2 F2 R2⟩
      · rw [if_neg (by omega), if_neg (by omega), if_neg (by omega), if_pos (by omega), C.put1 0, ob, if_neg (by omega), gR 10 C1.1 rfl, ob, co e0, ob, e1, ob, fX11_many_56]
      · rw [e2, ob, if_neg (by omega), if_neg (by omega), if_neg (by omega), if_pos (by omega), if_neg (by omega), stirling_ok h2 20 n k (by omega) (by omega) (by omega), ob]
  · obtain ⟨h2, h3, e2, R2, e3, B3⟩ := refuse2 G C R 1
    have b1 : ((cob h 10 1).bind fun _ => (fX11_refuse 1 1 h).bind fun p2 => some (p2.1, p2.2)) = some (-1, hput h 1 (BO 1)) := by rw [co C.1, ob, c_refuse C 1, ob]
    have b2 : ((cob h2 11 62).bind fun _ => (fX12_no 62 1 h2).bind fun p2 => some (p2.1, p2.2)) = some (-1, h3) := by rw [R2.cb, ob, e3, ob]
    refine ⟨-1, hput h 1 (BO 1), h3, ?_, ?_, B3⟩
    · by_cases a1 : a < 0
      · rw [if_pos a1, b1]
      · rw [if_neg a1]
        by_cases a2 : 12 < a
        · rw [if_pos a2, b1]
        · rw [if_neg a2]
          by_cases a3 : b < 0
          · rw [if_pos a3, b1]
          · rw [if_neg a3, if_neg (by omega), b1]
    · rw [e2, ob]
      by_cases a1 : a < 0
      · rw [if_pos a1, b2]
      · rw [if_neg a1]
        by_cases a2 : 12 < a
        · rw [if_pos a2, b2]
        · rw [if_neg a2]
          by_cases a3 : b < 0
          · rw [if_pos a3, b2]
          · rw [if_neg a3, if_neg (by omega), b2]
