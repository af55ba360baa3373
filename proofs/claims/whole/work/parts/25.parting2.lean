theorem cpyI_of {h : Hp} {q1 q2 m1 m2 : Nat} {f g : Nat → Int} {c : Int} (n : Nat) (e1 : h.2 q1 = some (arr 0 m1 f)) (e2 : h.2 q2 = some (arr 0 m2 g)) (hc : c = (n : Int)) (h1 : n ≤ m1) (h2 : n ≤ m2) (h3 : n ≤ 2147483647) : cpyI h q1 0 q2 0 c = some (hput h q2 (arr 0 m2 (fun k => if k < n then f k else g k))) := by
  subst hc
  unfold cpyI
  rw [e1, e2]
  simp only []
  rw [if_pos ⟨trivial, trivial, by omega, by omega, by omega, by omega, by omega, by omega⟩]
  congr 4
  funext k
  simp
theorem ptCopy_ok {h : Hp} {q q' : Nat} {n k n' k' : Int} {f f' : Nat → Int} (P : isPt h q n k f) (P' : isPt h q' n' k' f') (hd : q + 3 ≤ q' ∨ q' + 3 ≤ q) : ∃ h' F, fX6_copyFrom q q' h = some h' ∧ isPt h' q n' k' F ∧ (∀ i, i < 12 → F i = f' i) ∧ Fr (pts q) h h' := by
  obtain ⟨p0, p1, g, p2⟩ := P
  obtain ⟨r0, r1, g', r2⟩ := P'
  unfold fX6_copyFrom
  rw [gI 0 r0 rfl, ob, pV (fs' := [vi n', vi k, vr (q + 1), vr (q + 2)]) 0 p0 (by simp) rfl, ob, gI 1 ((hput_ne (by omega)).trans r0) rfl, ob, pV (fs' := [vi n', vi k', vr (q + 1), vr (q + 2)]) 1 hput_eq (by simp) rfl, ob, hput_hput, gR 2 ((hput_ne (by omega)).trans r0) rfl, ob, gR 2 hput_eq rfl, ob,
    cpyI_of (c := 12) 12 ((hput_ne (by omega)).trans r1) ((hput_ne (by omega)).trans p1) rfl (by omega) (by omega) (by omega), ob]
  exact ⟨_, _, rfl, ⟨(hput_ne (by omega)).trans hput_eq, hput_eq, g, (hput_ne (by omega)).trans ((hput_ne (by omega)).trans p2)⟩, fun i hi => by simp [hi], (Fr.rf.put (Or.inl rfl)).put (Or.inr (Or.inl rfl))⟩
theorem allInOne_ok {h : Hp} {q : Nat} {n k : Int} {f : Nat → Int} (P : isPt h q n k f) (n' : Int) : ∃ h' F, fX6_allInOne q n' h = some h' ∧ isPt h' q n' 1 F ∧ (∀ i, i < 12 → F i = 0) ∧ Fr (pts q) h h' := by
  obtain ⟨p0, p1, g, p2⟩ := P
  unfold fX6_allInOne
  rw [pV (fs' := [vi n', vi k, vr (q + 1), vr (q + 2)]) 0 p0 (by simp) rfl, ob, pV (fs' := [vi n', vi 1, vr (q + 1), vr (q + 2)]) 1 hput_eq (by simp) rfl, ob, hput_hput, gR 2 hput_eq rfl, ob]
  obtain ⟨G, e1, hG⟩ := fillI 0 (by omega) ((hput_ne (show q + 1 ≠ q by omega)).trans p1 : (hput h q (obj 5 [vi n', vi 1, vr (q + 1), vr (q + 2)])).2 (q + 1) = _)
  rw [e1, ob]
  exact ⟨_, G, rfl, ⟨(hput_ne (by omega)).trans hput_eq, hput_eq, g, (hput_ne (by omega)).trans ((hput_ne (by omega)).trans p2)⟩, hG, (Fr.rf.put (Or.inl rfl)).put (Or.inr (Or.inl rfl))⟩
/-- the things below n for which p holds, as bits -/
def msk (p : Nat → Bool) : Nat → Nat
  | 0 => 0
  | n + 1 => if p n then msk p n ||| 2 ^ n else msk p n
theorem msk_lt (p : Nat → Bool) (n : Nat) : msk p n < 2 ^ n := by
  induction n with
  | zero => simp [msk]
  | succ n ih =>
    simp only [msk]
    have h1 : msk p n < 2 ^ (n + 1) := Nat.lt_of_lt_of_le ih (Nat.pow_le_pow_right (by decide) (by omega))
    split
    · exact Nat.or_lt_two_pow h1 (Nat.pow_lt_pow_right (by decide) (by omega))
    · exact h1
theorem msk_bit (p : Nat → Bool) (n j : Nat) : (msk p n).testBit j = (decide (j < n) && p j) := by
  induction n with
  | zero => simp [msk]
  | succ n ih =>
    simp only [msk]
    by_cases hp : p n
    · rw [if_pos hp, Nat.testBit_or, ih, Nat.testBit_two_pow]
      by_cases e : j = n
      · subst e; simp [hp]
      · have : decide (j < n + 1) = decide (j < n) := by simp; omega
        rw [this]; simp [Ne.symm e]
    · rw [if_neg hp, ih]
      by_cases e : j = n
      · subst e; simp [hp]
      · have : decide (j < n + 1) = decide (j < n) := by simp; omega
        rw [this]
theorem membersOf_ok {h : Hp} {q n : Nat} {k : Int} {f : Nat → Int} (hn : n ≤ 12) (P : isPt h q n k f) (v : Int) : fX6_membersOf q v h = some (((msk (fun i => f i = v) n : Nat) : Int), h) := by
  obtain ⟨p0, p1, g, p2⟩ := P
  unfold fX6_membersOf
  refine lp (fun N i (m : Nat) => fX6_membersOf_4 N q v m i h) (fun i m => m = msk (fun i => f i = v) i) n (fun o => o = some (((msk (fun i => f i = v) n : Nat) : Int), h)) ?_ ?_ FU 0 0 (Nat.zero_le _) (FU_lt (by omega)) rfl
  · intro N i m hi hm
    have hlt := msk_lt (fun i => decide (f i = v)) i
    have h2 : 2 ^ i ≤ 2 ^ 12 := Nat.pow_le_pow_right (by decide) (by omega)
    refine ⟨_, rfl, ?_⟩
    simp only [fX6_membersOf_4, fX6_membersOf_28]
    rw [gI 0 p0 rfl, ob, if_neg (by omega), gR 2 p0 rfl, ob, ald_of i p1 rfl (by omega), ob]
    subst hm
    by_cases e : f i = v
    · rw [if_pos e, c32_n (by omega) (by omega), ob, bShl_1 i (by omega), bOr_n (by omega) (by omega)]
      simp only [msk]; rw [if_pos (by simpa using e)]; rfl
    · rw [if_neg e, c32_n (by omega) (by omega), ob]
      simp only [msk]; rw [if_neg (by simpa using e)]; rfl
  · intro N m hm
    simp only [fX6_membersOf_4, fX6_membersOf_34]
    rw [gI 0 p0 rfl, ob, if_pos (by omega), hm]
