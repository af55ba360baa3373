/-! orders of a seed, and heaps about pivots -/
def lcg (r : Int) : Int := wAdd (r * 1103515245) 12345
theorem bUsh16 (x : Int) : ∃ u : Nat, bUsh x 16 = (u : Int) ∧ u < 65536 := by
  refine ⟨((Int32.ofInt x).toUInt32 >>> ((Int32.ofInt 16).toUInt32 &&& Int32.toUInt32 31)).toNat, ?_, ?_⟩
  · have hlt : ((Int32.ofInt x).toUInt32 >>> ((Int32.ofInt 16).toUInt32 &&& Int32.toUInt32 31)).toNat < 65536 := by
      rw [UInt32.toNat_shiftRight]
      have : (((Int32.ofInt 16).toUInt32 &&& Int32.toUInt32 31).toNat % 32) = 16 := by decide
      rw [this, Nat.shiftRight_eq_div_pow]
      have := (Int32.ofInt x).toUInt32.toNat_lt
      omega
    unfold bUsh
    exact i32_bv _ (by
      show ((Int32.ofInt x).toUInt32 >>> ((Int32.ofInt 16).toUInt32 &&& Int32.toUInt32 31)).toNat < 2147483648
      omega)
  · rw [UInt32.toNat_shiftRight]
    have : (((Int32.ofInt 16).toUInt32 &&& Int32.toUInt32 31).toNat % 32) = 16 := by decide
    rw [this, Nat.shiftRight_eq_div_pow]
    have := (Int32.ofInt x).toUInt32.toNat_lt
    omega
def jx (r : Int) (i : Nat) : Nat := (bRem (bUsh (lcg r) 16) ((i : Int) + 1)).toNat
theorem jx_ok (r : Int) {i : Nat} (hi : i ≤ 1000) : bRem (bUsh (wAdd (r * 1103515245) 12345) 16) ((i : Int) + 1) = ((jx r i : Nat) : Int) ∧ jx r i ≤ i := by
  obtain ⟨u, hu, hl⟩ := bUsh16 (lcg r)
  have e : bRem (bUsh (lcg r) 16) ((i : Int) + 1) = ((u % (i + 1) : Nat) : Int) := by
    rw [hu, show (i : Int) + 1 = ((i + 1 : Nat) : Int) from rfl, bRem_n (by omega) (by omega) (by omega)]
  have hm := Nat.mod_lt u (show 0 < i + 1 by omega)
  refine ⟨?_, ?_⟩
  · show bRem (bUsh (lcg r) 16) ((i : Int) + 1) = (((bRem (bUsh (lcg r) 16) ((i : Int) + 1)).toNat : Nat) : Int)
    rw [e]; omega
  · unfold jx; rw [e]; omega
def swp (F : Nat → Int) (i j : Nat) : Nat → Int := ups (ups F i (F j)) j (F i)
theorem swp_at (F : Nat → Int) (i j k : Nat) : swp F i j k = if k = j then F i else if k = i then F j else F k := rfl
def shf : Nat → Int → (Nat → Int) → (Nat → Int)
  | 0, _, F => F
  | i + 1, r, F => shf i (lcg r) (swp F (i + 1) (jx r (i + 1)))
/-- F goes over all things -/
def PM (n : Nat) (F : Nat → Int) : Prop := (∀ i, i < n → ∃ t : Nat, t < n ∧ F i = t) ∧ ∀ t : Nat, t < n → ∃ i, i < n ∧ F i = t
theorem PM.swp {n : Nat} {F : Nat → Int} (h : PM n F) {i j : Nat} (hi : i < n) (hj : j < n) : PM n (swp F i j) := by
  refine ⟨fun k hk => ?_, fun t ht => ?_⟩
  · rw [swp_at]
    split
    · exact h.1 i hi
    · split
      · exact h.1 j hj
      · exact h.1 k hk
  · obtain ⟨k, hk, e⟩ := h.2 t ht
    by_cases k1 : k = i
    · exact ⟨j, hj, by rw [swp_at, if_pos rfl, ← k1]; exact e⟩
    · by_cases k2 : k = j
      · refine ⟨i, hi, ?_⟩
        rw [swp_at]
        by_cases z : i = j
        · rw [if_pos z, z, ← k2]; exact e
        · rw [if_neg z, if_pos rfl, ← k2]; exact e
      · exact ⟨k, hk, by rw [swp_at, if_neg k2, if_neg k1]; exact e⟩
theorem shf_pm {n : Nat} : ∀ (i : Nat) (r : Int) (F : Nat → Int), i < n → n ≤ 12 → PM n F → PM n (shf i r F) := by
  intro i
  induction i with
  | zero => intro r F _ _ h; exact h
  | succ i ih =>
    intro r F hi hn h
    have := (jx_ok r (i := i + 1) (by omega)).2
    exact ih _ _ (by omega) hn (h.swp hi (by omega))
theorem shf_congr {n : Nat} : ∀ (i : Nat) (r : Int) (F G : Nat → Int), i < n → n ≤ 12 → Eqn n F G → Eqn n (shf i r F) (shf i r G) := by
  intro i
  induction i with
  | zero => intro r F G _ _ h; exact h
  | succ i ih =>
    intro r F G hi hn h
    have hj := (jx_ok r (i := i + 1) (by omega)).2
    refine ih _ _ _ (by omega) hn (fun k hk => ?_)
    rw [swp_at, swp_at, h (i + 1) hi, h (jx r (i + 1)) (by omega), h k hk]
theorem PM.id {n : Nat} {F : Nat → Int} (h : ∀ t, t < n → F t = (t : Int)) : PM n F := ⟨fun i hi => ⟨i, hi, h i hi⟩, fun t ht => ⟨t, ht, h t ht⟩⟩
theorem c_shuf {h : Hp} (o : h.2 44 = some (obj 1 [vr 45, vr 46])) : ∀ (i N : Nat) (r : Int) (F : Nat → Int), i < 12 → i < N → fX2_shuffle_27 N 44 r i (hput h 45 (arr 0 12 F)) = some (hput h 45 (arr 0 12 (shf i r F))) := by
  intro i
  induction i with
  | zero =>
    intro N r F _ hN
    obtain ⟨N, rfl⟩ : ∃ k, N = k + 1 := ⟨N - 1, by omega⟩
    rw [fX2_shuffle_27, if_pos (by omega), fX2_shuffle_91]; rfl
  | succ i ih =>
    intro N r F hi hN
    obtain ⟨N, rfl⟩ : ∃ k, N = k + 1 := ⟨N - 1, by omega⟩
    obtain ⟨e1, e2⟩ := jx_ok r (i := i + 1) (by omega)
    have o' : ∀ F, (hput h 45 (arr 0 12 F)).2 44 = some (obj 1 [vr 45, vr 46]) := fun F => (hput_ne (by omega)).trans o
    rw [fX2_shuffle_27, if_neg (by omega), c32_n (by omega) (by omega), ob, show cnz (((i + 1 : Nat) : Int) + 1) = some () from if_neg (by omega), ob, gR 0 (o' F) rfl, ob, ald_of (i + 1) hput_eq rfl (by omega), ob, ob, ob, e1, ald_of (jx r (i + 1)) hput_eq rfl (by omega), ob, ast_of (i + 1) hput_eq rfl (by omega), ob, hput_hput, gR 0 (o' _) rfl, ob, ast_of (jx r (i + 1)) hput_eq rfl (by omega), ob, hput_hput, c32_n (by omega) (by omega), ob, show ((i + 1 : Nat) : Int) + -1 = (i : Int) by omega]
    exact ih N (lcg r) (swp F (i + 1) (jx r (i + 1))) (by omega) (by omega)
theorem r_shuf {h : Hp} {pa fp sk sm jn li fl : Int} (o : h.2 62 = some (MO pa fp sk sm jn li fl)) : ∀ (i N : Nat) (r : Int) (F : Nat → Int), i < 12 → i < N → fX12_third_41 N 62 r i (hput h 80 (arr 0 12 F)) = fX12_third_100 62 (hput h 80 (arr 0 12 (shf i r F))) := by
  intro i
  induction i with
  | zero =>
    intro N r F _ hN
    obtain ⟨N, rfl⟩ : ∃ k, N = k + 1 := ⟨N - 1, by omega⟩
    rw [fX12_third_41, if_pos (by omega)]; rfl
  | succ i ih =>
    intro N r F hi hN
    obtain ⟨N, rfl⟩ : ∃ k, N = k + 1 := ⟨N - 1, by omega⟩
    obtain ⟨e1, e2⟩ := jx_ok r (i := i + 1) (by omega)
    have o' : ∀ F, (hput h 80 (arr 0 12 F)).2 62 = some (MO pa fp sk sm jn li fl) := fun F => (hput_ne (by omega)).trans o
    rw [fX12_third_41, if_neg (by omega), c32_n (by omega) (by omega), ob, show cnz (((i + 1 : Nat) : Int) + 1) = some () from if_neg (by omega), ob, gR 24 (o' F) rfl, ob, ald_of (i + 1) hput_eq rfl (by omega), ob, ob, ob, e1, ald_of (jx r (i + 1)) hput_eq rfl (by omega), ob, ast_of (i + 1) hput_eq rfl (by omega), ob, hput_hput, gR 24 (o' _) rfl, ob, ast_of (jx r (i + 1)) hput_eq rfl (by omega), ob, hput_hput, c32_n (by omega) (by omega), ob, show ((i + 1 : Nat) : Int) + -1 = (i : Int) by omega]
    exact ih N (lcg r) (swp F (i + 1) (jx r (i + 1))) (by omega) (by omega)
/-- heaps about pivots: labels so far (-1: in no heap) and how many heaps -/
def gst (X K : Nat → Int) (lab : Nat → Int) (c : Int) (t : Nat) : Nat → Int := fun b => if lab b = -1 ∧ (b = t ∨ pul X K t b = true) then c else lab b
def gl (X K : Nat → Int) (ord : Nat → Nat) : Nat → (Nat → Int) × Int
  | 0 => (fun _ => -1, 0)
  | i + 1 => if (gl X K ord i).1 (ord i) = -1 then (gst X K (gl X K ord i).1 (gl X K ord i).2 (ord i), (gl X K ord i).2 + 1) else gl X K ord i
theorem gl_bd (X K : Nat → Int) (ord : Nat → Nat) : ∀ i : Nat, 0 ≤ (gl X K ord i).2 ∧ (gl X K ord i).2 ≤ i ∧ ∀ b, -1 ≤ (gl X K ord i).1 b ∧ (gl X K ord i).1 b < (gl X K ord i).2 := by
  intro i
  induction i with
  | zero => exact ⟨Int.le_refl _, Int.le_refl _, fun b => ⟨by show (-1 : Int) ≤ -1; omega, by show (-1 : Int) < 0; omega⟩⟩
  | succ i ih =>
    obtain ⟨h1, h2, h3⟩ := ih
    simp only [gl]
    split
    · refine ⟨by show 0 ≤ (gl X K ord i).2 + 1; omega, by show (gl X K ord i).2 + 1 ≤ ((i + 1 : Nat) : Int); omega, fun b => ?_⟩
      have := h3 b
      show -1 ≤ gst X K (gl X K ord i).1 (gl X K ord i).2 (ord i) b ∧ gst X K (gl X K ord i).1 (gl X K ord i).2 (ord i) b < (gl X K ord i).2 + 1
      unfold gst
      split <;> omega
    · exact ⟨h1, by omega, h3⟩
theorem gl_keep (X K : Nat → Int) (ord : Nat → Nat) (i : Nat) {b : Nat} (h : (gl X K ord i).1 b ≠ -1) : (gl X K ord (i + 1)).1 b = (gl X K ord i).1 b := by
  simp only [gl]
  split
  · show gst X K (gl X K ord i).1 (gl X K ord i).2 (ord i) b = _
    unfold gst
    rw [if_neg (fun z => h z.1)]
  · rfl
theorem gl_all (X K : Nat → Int) (ord : Nat → Nat) (i : Nat) : ∀ j, j < i → (gl X K ord i).1 (ord j) ≠ -1 := by
  induction i with
  | zero => intro j hj; omega
  | succ i ih =>
    intro j hj
    by_cases z : (gl X K ord i).1 (ord j) = -1
    · have : j = i := by
        rcases Nat.lt_or_ge j i with y | y
        · exact absurd z (ih j y)
        · omega
      subst this
      simp only [gl]
      rw [if_pos z]
      show gst X K (gl X K ord j).1 (gl X K ord j).2 (ord j) (ord j) ≠ -1
      unfold gst
      rw [if_pos ⟨z, Or.inl rfl⟩]
      have := (gl_bd X K ord j).1; omega
    · rw [gl_keep X K ord i z]; exact z
theorem gl_congr {X X' K K' : Nat → Int} {ord ord' : Nat → Nat} {n : Nat} (hn : n ≤ 12) (eX : Eqn 144 X X') (eK : Eqn 144 K K') : ∀ i, i ≤ n → (∀ j, j < i → ord j = ord' j ∧ ord j < n) → (gl X K ord i).2 = (gl X' K' ord' i).2 ∧ ∀ b, b < n → (gl X K ord i).1 b = (gl X' K' ord' i).1 b := by
  intro i
  induction i with
  | zero => intro _ _; exact ⟨rfl, fun _ _ => rfl⟩
  | succ i ih =>
    intro hi ho
    obtain ⟨e1, e2⟩ := ih (by omega) (fun j hj => ho j (by omega))
    obtain ⟨o1, o2⟩ := ho i (by omega)
    simp only [gl]
    rw [← o1, e2 _ o2]
    split
    · refine ⟨by show (gl X K ord i).2 + 1 = (gl X' K' ord' i).2 + 1; rw [e1], fun b hb => ?_⟩
      show gst X K (gl X K ord i).1 (gl X K ord i).2 (ord i) b = gst X' K' (gl X' K' ord' i).1 (gl X' K' ord' i).2 (ord i) b
      unfold gst pul
      rw [e1, e2 b hb, eX _ (by omega), eK _ (by omega)]
    · exact ⟨e1, e2⟩
