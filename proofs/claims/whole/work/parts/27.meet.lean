theorem meet_in {h hh : Hp} {q q' n : Nat} {kk k' : Int} {f f' fr : Nat → Int} (hn : n ≤ 12) (hd : q + 3 ≤ q' ∨ q' + 3 ≤ q) (P' : isPt h q' n k' f') (hf : ∀ i, i < n → 0 ≤ f i ∧ f i < 13) (hf' : ∀ i, i < n → 0 ≤ f' i ∧ f' i < 13)
    (a0 : hh.2 q = some (obj 5 [vi n, vi kk, vr (q + 1), vr (q + 2)])) (a1 : hh.2 (q + 1) = some (arr 0 12 f)) (a2 : hh.2 (q + 2) = some (arr 0 13 fr)) (a3 : Fr (pts q) h hh) (i : Nat) (hi : i < n) (hfr : fr i = -1) (hpos : ∀ j, j < i → 0 ≤ fr j) (K : Nat → Nat → Int → Hp → Option Hp) :
    ∃ h2 fr2, fX6_meet_24 K FU q q' i 0 hh = fX6_meet_87 K q q' i h2 ∧ h2.2 q = some (obj 5 [vi n, vi kk, vr (q + 1), vr (q + 2)]) ∧ h2.2 (q + 1) = some (arr 0 12 f) ∧ h2.2 (q + 2) = some (arr 0 13 fr2) ∧ Fr (pts q) h h2 ∧ (∀ j, j ≠ i → fr2 j = fr j) ∧
      ((fr2 i = -1 ∧ ∀ l, l < i → f l * 13 + f' l ≠ f i * 13 + f' i) ∨ ∃ l, l < i ∧ f l * 13 + f' l = f i * 13 + f' i ∧ fr2 i = fr2 l) := by
  refine lpe (fun N j (s : Hp × (Nat → Int)) => fX6_meet_24 K N q q' i j s.1) (fun j s => s.1.2 q = some (obj 5 [vi n, vi kk, vr (q + 1), vr (q + 2)]) ∧ s.1.2 (q + 1) = some (arr 0 12 f) ∧ s.1.2 (q + 2) = some (arr 0 13 s.2) ∧ Fr (pts q) h s.1 ∧ (∀ j, j ≠ i → s.2 j = fr j) ∧ ((s.2 i = -1 ∧ ∀ l, l < j → f l * 13 + f' l ≠ f i * 13 + f' i) ∨ (s.2 i ≠ -1 ∧ ∃ l, l < i ∧ f l * 13 + f' l = f i * 13 + f' i ∧ s.2 i = s.2 l))) i
    (fun o => ∃ h2 fr2, o = fX6_meet_87 K q q' i h2 ∧ h2.2 q = some (obj 5 [vi n, vi kk, vr (q + 1), vr (q + 2)]) ∧ h2.2 (q + 1) = some (arr 0 12 f) ∧ h2.2 (q + 2) = some (arr 0 13 fr2) ∧ Fr (pts q) h h2 ∧ (∀ j, j ≠ i → fr2 j = fr j) ∧ ((fr2 i = -1 ∧ ∀ l, l < i → f l * 13 + f' l ≠ f i * 13 + f' i) ∨ ∃ l, l < i ∧ f l * 13 + f' l = f i * 13 + f' i ∧ fr2 i = fr2 l)) ?_ ?_ FU 0 (hh, fr) (Nat.zero_le _) (FU_lt (by omega)) ⟨a0, a1, a2, a3, fun _ _ => rfl, Or.inl ⟨hfr, fun l hl => by omega⟩⟩
  · intro N j ⟨g1, fr1⟩ hj ⟨b0, b1, b2, b3, b4, b5⟩
    dsimp only at b0 b1 b2 b3 b4 b5
    simp only [fX6_meet_24]
    rw [if_neg (by omega), gR 3 b0 rfl, ob, ald_of i b2 rfl (by omega), ob]
    rcases b5 with ⟨c1, c2⟩ | ⟨c1, c2⟩
    · right
      obtain ⟨s0, s1, sg, s2⟩ := isPt.fr b3 P' (fun k hk => by rcases hk with rfl | rfl | rfl <;> (intro z; rcases z with z | z | z <;> omega))
      rw [if_pos c1, gR 2 b0 rfl, ob, ald_of j b1 rfl (by omega), ob, ob, ald_of i b1 rfl (by omega), ob]
      have hx := hf i (by omega); have hy := hf' i (by omega); have hx2 := hf j (by omega); have hy2 := hf' j (by omega)
      have miss : f j * 13 + f' j ≠ f i * 13 + f' i → (s' : Hp × (Nat → Int)) → s' = (g1, fr1) → (s'.1.2 q = some (obj 5 [vi n, vi kk, vr (q + 1), vr (q + 2)]) ∧ s'.1.2 (q + 1) = some (arr 0 12 f) ∧ s'.1.2 (q + 2) = some (arr 0 13 s'.2) ∧ Fr (pts q) h s'.1 ∧ (∀ j, j ≠ i → s'.2 j = fr j) ∧ ((s'.2 i = -1 ∧ ∀ l, l < j + 1 → f l * 13 + f' l ≠ f i * 13 + f' i) ∨ (s'.2 i ≠ -1 ∧ ∃ l, l < i ∧ f l * 13 + f' l = f i * 13 + f' i ∧ s'.2 i = s'.2 l))) := by
        intro hne s' hs
        subst hs
        refine ⟨b0, b1, b2, b3, b4, Or.inl ⟨c1, fun l hl => ?_⟩⟩
        by_cases e : l = j
        · subst e; exact hne
        · exact c2 l (by omega)
      by_cases e1 : f j = f i
      · rw [if_pos e1, gR 2 s0 rfl, ob, ald_of j s1 rfl (by omega), ob, ob, ald_of i s1 rfl (by omega), ob]
        by_cases e2 : f' j = f' i
        · rw [if_pos e2, ob, ob, ald_of j b2 rfl (by omega), ob, ast_of i b2 rfl (by omega), ob]
          simp only [fX6_meet_81]
          rw [c32_n (by omega) (by omega), ob]
          have hfj : fr1 j = fr j := b4 j (by omega)
          have hp := hpos j hj
          refine ⟨(hput g1 (q + 2) (arr 0 13 (ups fr1 i (fr1 j))), ups fr1 i (fr1 j)), ⟨(hput_ne (by omega)).trans b0, (hput_ne (by omega)).trans b1, hput_eq, b3.put (Or.inr (Or.inr rfl)), fun l hl => by simp [ups_at, hl]; exact b4 l hl, Or.inr ⟨?_, j, hj, by rw [e1, e2], ?_⟩⟩, rfl⟩
          · simp [ups_at]; omega
          · simp [ups_at]
        · rw [if_neg e2]
          simp only [fX6_meet_81]
          rw [c32_n (by omega) (by omega), ob]
          exact ⟨(g1, fr1), miss (by omega) _ rfl, rfl⟩
      · rw [if_neg e1]
        simp only [fX6_meet_81]
        rw [c32_n (by omega) (by omega), ob]
        exact ⟨(g1, fr1), miss (by omega) _ rfl, rfl⟩
    · left
      rw [if_neg c1]
      exact ⟨g1, fr1, rfl, b0, b1, b2, b3, b4, Or.inr c2⟩
  · intro N ⟨g1, fr1⟩ ⟨b0, b1, b2, b3, b4, b5⟩
    dsimp only at b0 b1 b2 b3 b4 b5
    simp only [fX6_meet_24]
    rw [if_pos (by omega)]
    refine ⟨g1, fr1, rfl, b0, b1, b2, b3, b4, ?_⟩
    rcases b5 with z | ⟨-, z⟩
    · exact Or.inl z
    · exact Or.inr z
theorem meet_ok {h : Hp} {q q' n : Nat} {k k' : Int} {f f' : Nat → Int} (hn : n ≤ 12) (hd : q + 3 ≤ q' ∨ q' + 3 ≤ q) (P : isPt h q n k f) (P' : isPt h q' n k' f') (hf : ∀ i, i < n → 0 ≤ f i ∧ f i < 13) (hf' : ∀ i, i < n → 0 ≤ f' i ∧ f' i < 13) :
    ∃ h' g, fX6_meet q q' h = some h' ∧ isPt h' q n (mx g n) g ∧ RN n (fun i => f i * 13 + f' i) g ∧ Fr (pts q) h h' := by
  obtain ⟨p0, p1, gg, p2⟩ := id P
  unfold fX6_meet
  rw [pV (fs' := [vi n, vi 0, vr (q + 1), vr (q + 2)]) 1 p0 (by simp) rfl, ob]
  refine lp (fun N i (hh : Hp) => fX6_meet_7 N q q' i hh) (fun i hh => ∃ fr, hh.2 q = some (obj 5 [vi n, vi (mx fr i), vr (q + 1), vr (q + 2)]) ∧ hh.2 (q + 1) = some (arr 0 12 f) ∧ hh.2 (q + 2) = some (arr 0 13 fr) ∧ Fr (pts q) h hh ∧ RN i (fun i => f i * 13 + f' i) fr) n (fun o => ∃ h' g, o = some h' ∧ isPt h' q n (mx g n) g ∧ RN n (fun i => f i * 13 + f' i) g ∧ Fr (pts q) h h') ?_ ?_ FU 0 _ (Nat.zero_le _) (FU_lt (by omega)) ?_
  · intro N i hh hi ⟨fr, a0, a1, a2, a3, a4⟩
    have hm1 := a4.1.mx_le; have hm0 := mx_nonneg fr i
    simp only [fX6_meet_7]
    rw [gI 0 a0 rfl, ob, if_neg (by omega), gR 3 a0 rfl, ob, ast_of i a2 rfl (by omega), ob]
    have eo : ∀ j, j < i → ups fr i (-1) j = fr j := fun j hj => by simp [ups_at]; omega
    obtain ⟨h2, fr2, e1, b0, b1, b2, b3, b4, b5⟩ := meet_in hn hd P' hf hf' (hh := hput hh (q + 2) (arr 0 13 (ups fr i (-1)))) (fr := ups fr i (-1)) (kk := mx fr i) ((hput_ne (by omega)).trans a0) ((hput_ne (by omega)).trans a1) hput_eq (a3.put (Or.inr (Or.inr rfl))) i hi (by simp [ups_at]) (fun j hj => by rw [eo j hj]; exact (a4.1 j hj).1) (fX6_meet_7 N)
    rw [e1]
    have e2 : ∀ j, j < i → fr2 j = fr j := fun j hj => (b4 j (by omega)).trans (eo j hj)
    have em : mx fr2 i = mx fr i := mx_congr e2
    have R2 : RN i (fun i => f i * 13 + f' i) fr2 := ⟨RGS.congr a4.1 (fun j hj => (e2 j hj).symm), fun x y hx hy => by rw [e2 x hx, e2 y hy]; exact a4.2 x y hx hy⟩
    simp only [fX6_meet_87, fX6_meet_117]
    rw [gR 3 b0 rfl, ob, ald_of i b2 rfl (by omega), ob]
    rcases b5 with ⟨c1, c2⟩ | ⟨l, hl, c1, c2⟩
    · rw [if_pos c1, ob, gI 1 b0 rfl, ob, ast_of i b2 rfl (by omega), ob, gI 1 ((hput_ne (by omega)).trans b0) rfl, ob, c32_n (by omega) (by omega), ob, pV (fs' := [vi n, vi (mx fr i + 1), vr (q + 1), vr (q + 2)]) 1 ((hput_ne (by omega)).trans b0) (by simp) rfl, ob, c32_n (by omega) (by omega), ob]
      have e3 : ∀ j, j < i → ups fr2 i (mx fr i) j = fr2 j := fun j hj => by simp [ups_at]; omega
      have e4 : ups fr2 i (mx fr i) i = mx fr i := by simp [ups_at]
      have em2 : mx (ups fr2 i (mx fr i)) i = mx fr i := (mx_congr e3).trans em
      refine ⟨_, ⟨ups fr2 i (mx fr i), ?_, (hput_ne (by omega)).trans ((hput_ne (by omega)).trans b1), (hput_ne (by omega)).trans hput_eq, (b3.put (Or.inr (Or.inr rfl))).put (Or.inl rfl), ?_⟩, rfl⟩
      · rw [hput_eq]; simp only [mx]; rw [em2, e4]; congr 5; omega
      · refine RN.step ⟨RGS.congr R2.1 (fun j hj => (e3 j hj).symm), fun x y hx hy => by rw [e3 x hx, e3 y hy]; exact R2.2 x y hx hy⟩ (Or.inr ⟨c2, ?_⟩)
        rw [e4, em2]
    · have hpos : 0 ≤ fr2 l := by rw [e2 l hl]; exact (a4.1 l hl).1
      have hlm := lt_mx (g := fr2) hl
      rw [if_neg (by omega), c32_n (by omega) (by omega), ob]
      refine ⟨h2, ⟨fr2, ?_, b1, b2, b3, RN.step R2 (Or.inl ⟨l, hl, c1, c2⟩)⟩, rfl⟩
      rw [b0]; simp only [mx]; rw [em]; congr 5; omega
  · intro N hh ⟨fr, a0, a1, a2, a3, a4⟩
    simp only [fX6_meet_7, fX6_meet_123]
    rw [gI 0 a0 rfl, ob, if_pos (by omega), gR 3 a0 rfl, ob, gR 2 a0 rfl, ob, ob, cpyI_of n a2 a1 rfl (by omega) (by omega) (by omega), ob]
    have e1 : ∀ j, j < n → (fun k => if k < n then fr k else f k) j = fr j := fun j hj => by simp [hj]
    refine ⟨_, fun k => if k < n then fr k else f k, rfl, ⟨?_, hput_eq, fr, (hput_ne (by omega)).trans a2⟩, ⟨RGS.congr a4.1 (fun j hj => (e1 j hj).symm), fun x y hx hy => by rw [e1 x hx, e1 y hy]; exact a4.2 x y hx hy⟩, a3.put (Or.inr (Or.inl rfl))⟩
    rw [hput_ne (by omega), a0, mx_congr e1]
  · exact ⟨gg, hput_eq, (hput_ne (by omega)).trans p1, (hput_ne (by omega)).trans p2, Fr.rf.put (Or.inl rfl), ⟨fun i hi => by omega, fun i j hi => by omega⟩⟩
