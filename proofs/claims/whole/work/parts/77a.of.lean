theorem mulS (d : Nat) (st : Int) : ((d + 1 : Nat) : Int) * st = d * st + st := by rw [Int.natCast_add, Int.add_mul]; omega
theorem RU.step {n i d : Nat} {rank : Int} {g L : Nat → Int} (h : RU n rank g L i) (hL : 0 ≤ L i ∧ L i ≤ rank) (hd : isDig (L i) (won (n - 1 - i) (mx g i).toNat) (mx g i).toNat d) : RU n rank (ups g i d) (ups L (i + 1) (L i - d * won (n - 1 - i) (mx g i).toNat)) (i + 1) := by
  have eg : ∀ k, k ≤ i → mx (ups g i d) k = mx g k := fun k hk => mx_congr (fun j hj => by rw [ups_at, if_neg (by omega)])
  refine ⟨by rw [ups_at, if_neg (by omega)]; exact h.1, fun k hk => ?_, fun k hk => ?_⟩
  · rw [ups_at, if_neg (by omega)]
    by_cases z : k = i
    · subst z; exact hL
    · exact h.2.1 k (by omega)
  · by_cases z : k = i
    · subst z
      refine ⟨d, by simp [ups_at], ?_, ?_⟩
      · rw [eg k (Nat.le_refl _), ups_at, if_neg (by omega)]; exact hd
      · rw [eg k (Nat.le_refl _), ups_at, if_pos rfl, ups_at, if_neg (by omega)]
    · obtain ⟨d', a1, a2, a3⟩ := h.2.2 k (by omega)
      refine ⟨d', by rw [ups_at, if_neg z]; exact a1, ?_, ?_⟩
      · rw [eg k (by omega), ups_at, if_neg (by omega)]; exact a2
      · rw [eg k (by omega), ups_at, if_neg (by omega), ups_at, if_neg (by omega)]; exact a3
theorem c_dig (Kk : Nat → Nat → Int → Int → Int → Hp → Option Hp) (g : Hp) {L st : Int} {k i : Nat} (hL : 0 ≤ L ∧ L ≤ 9223372036854775807) (hs : 1 ≤ st) (hk : k ≤ 12) : ∃ d : Nat, fX5_unrank_43 Kk FU 47 7 L k i st 0 g = fX5_unrank_71 Kk 47 7 (L - d * st) k i d g ∧ isDig L st k d ∧ 0 ≤ L - d * st ∧ L - d * st ≤ L := by
  refine lpe (fun N d (c : Int) => fX5_unrank_43 Kk N 47 7 c k i st d g) (fun d c => c = L - d * st ∧ 0 ≤ c ∧ c ≤ L ∧ ∀ j : Nat, j < d → st ≤ L - j * st) k (fun r => ∃ d : Nat, r = fX5_unrank_71 Kk 47 7 (L - d * st) k i d g ∧ isDig L st k d ∧ 0 ≤ L - d * st ∧ L - d * st ≤ L) ?_ ?_ FU 0 L (Nat.zero_le _) (FU_lt (by omega)) ⟨by simp, hL.1, Int.le_refl _, fun j hj => by omega⟩
  · intro N d c hd ⟨h1, h2, h3, h4⟩
    rw [fX5_unrank_43, if_neg (by omega)]
    by_cases z : c < st
    · left
      rw [if_pos ((lCmp_lt c st).mpr z), h1]
      exact ⟨d, rfl, ⟨by omega, h4, Or.inr (by omega)⟩, by omega, by omega⟩
    · right
      rw [if_neg (fun y => z ((lCmp_lt c st).mp y)), c64_n (by omega) (by omega), ob, c32_n (by omega) (by omega), ob]
      refine ⟨c - st, ⟨by rw [mulS]; omega, by omega, by omega, fun j hj => ?_⟩, rfl⟩
      by_cases y : j = d
      · subst y; omega
      · exact h4 j (by omega)
  · intro N c ⟨h1, h2, h3, h4⟩
    rw [fX5_unrank_43, if_pos (by omega), h1]
    exact ⟨k, rfl, ⟨Nat.le_refl _, h4, Or.inl rfl⟩, by omega, by omega⟩
theorem r_dig (Kk : Nat → Int → Int → Int → Hp → Option (Int × Hp)) (g : Hp) {L st : Int} {k i : Nat} (hL : 0 ≤ L ∧ L ≤ 9223372036854775807) (hs : 1 ≤ st) (hk : k ≤ 12) : ∃ d : Nat, fX12_of_81 Kk FU 62 L k i st 0 g = fX12_of_106 Kk 62 (L - d * st) k i d g ∧ isDig L st k d ∧ 0 ≤ L - d * st ∧ L - d * st ≤ L := by
  refine lpe (fun N d (c : Int) => fX12_of_81 Kk N 62 c k i st d g) (fun d c => c = L - d * st ∧ 0 ≤ c ∧ c ≤ L ∧ ∀ j : Nat, j < d → st ≤ L - j * st) k (fun r => ∃ d : Nat, r = fX12_of_106 Kk 62 (L - d * st) k i d g ∧ isDig L st k d ∧ 0 ≤ L - d * st ∧ L - d * st ≤ L) ?_ ?_ FU 0 L (Nat.zero_le _) (FU_lt (by omega)) ⟨by simp, hL.1, Int.le_refl _, fun j hj => by omega⟩
  · intro N d c hd ⟨h1, h2, h3, h4⟩
    rw [fX12_of_81, if_neg (by omega)]
    by_cases z : c < st
    · left
      rw [if_pos ((lCmp_lt c st).mpr z), h1]
      exact ⟨d, rfl, ⟨by omega, h4, Or.inr (by omega)⟩, by omega, by omega⟩
    · right
      rw [if_neg (fun y => z ((lCmp_lt c st).mp y)), c64_n (by omega) (by omega), ob, c32_n (by omega) (by omega), ob]
      refine ⟨c - st, ⟨by rw [mulS]; omega, by omega, by omega, fun j hj => ?_⟩, rfl⟩
      by_cases y : j = d
      · subst y; omega
      · exact h4 j (by omega)
  · intro N c ⟨h1, h2, h3, h4⟩
    rw [fX12_of_81, if_pos (by omega), h1]
    exact ⟨k, rfl, ⟨Nat.le_refl _, h4, Or.inl rfl⟩, by omega, by omega⟩
