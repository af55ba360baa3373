/-- 1 for a pair that lies together by one of the two alone -/
def dif (f g : Nat → Int) (a b : Nat) : Int := if (f a = f b) ↔ (g a = g b) then 0 else 1
theorem dif_01 (f g : Nat → Int) (a b : Nat) : 0 ≤ dif f g a b ∧ dif f g a b ≤ 1 := by unfold dif; split <;> omega
theorem sumN_01 {n : Nat} {F : Nat → Int} (h : ∀ i, i < n → 0 ≤ F i ∧ F i ≤ 1) : 0 ≤ sumN n F ∧ sumN n F ≤ n := by
  have h1 := sumN_nonneg (n := n) (F := F) (fun i hi => (h i hi).1)
  have h2 := sumN_le (n := n) (F := F) (c := 1) (fun i hi => (h i hi).2)
  omega
theorem pairsApart_in {h : Hp} {q q' n : Nat} {k k' : Int} {f f' : Nat → Int} (hn : n ≤ 12) (P : isPt h q n k f) (P' : isPt h q' n k' f') (K : Nat → Nat → Int → Int → Hp → Option (Int × Hp)) (a : Nat) (ha : a < n) (c : Int) (hc : 0 ≤ c ∧ c ≤ 1000) : fX6_pairsApart_15 K FU q q' c a 0 h = K q q' (c + sumN a (fun b => dif f f' a b)) ((a + 1 : Nat) : Int) h := by
  obtain ⟨p0, p1, g, p2⟩ := P
  obtain ⟨r0, r1, g', r2⟩ := P'
  refine lp (fun N i (c' : Int) => fX6_pairsApart_15 K N q q' c' a i h) (fun i c' => c' = c + sumN i (fun b => dif f f' a b)) a (fun o => o = K q q' (c + sumN a (fun b => dif f f' a b)) ((a + 1 : Nat) : Int) h) ?_ ?_ FU 0 c (Nat.zero_le _) (FU_lt (by omega)) (by simp [sumN])
  · intro N i c' hi hc'
    have hb := sumN_01 (n := i) (F := fun b => dif f f' a b) (fun j _ => dif_01 _ _ _ _)
    refine ⟨c' + dif f f' a i, by rw [hc']; simp only [sumN]; omega, ?_⟩
    simp only [fX6_pairsApart_15]
    rw [if_neg (by omega), gR 2 p0 rfl, ob, ald_of a p1 rfl (by omega), ob, ob, ald_of i p1 rfl (by omega), ob]
    have key : ∀ s : Int, (s = 0 ∨ s = 1) → fX6_pairsApart_42 K (fX6_pairsApart_15 K N) q q' c' a i s h = fX6_pairsApart_15 K N q q' (c' + (if s = (if f' a = f' i then 1 else 0) then 0 else 1)) a ((i + 1 : Nat) : Int) h := by
      intro s hs
      simp only [fX6_pairsApart_42, fX6_pairsApart_65, fX6_pairsApart_80]
      rw [gR 2 r0 rfl, ob, ald_of a r1 rfl (by omega), ob, ob, ald_of i r1 rfl (by omega), ob]
      by_cases e : f' a = f' i
      · rw [if_pos e, if_pos e]
        by_cases e2 : s = 1
        · rw [if_pos e2, if_pos e2, c32_n (by omega) (by omega), ob, c32_n (by omega) (by omega), ob]; rfl
        · rw [if_neg e2, if_neg e2, c32_n (by omega) (by omega), ob, c32_n (by omega) (by omega), ob]; rfl
      · rw [if_neg e, if_neg e]
        by_cases e2 : s = 0
        · rw [if_pos e2, if_pos e2, c32_n (by omega) (by omega), ob, c32_n (by omega) (by omega), ob]; rfl
        · rw [if_neg e2, if_neg e2, c32_n (by omega) (by omega), ob, c32_n (by omega) (by omega), ob]; rfl
    by_cases e1 : f a = f i
    · rw [if_pos e1, key 1 (Or.inr rfl)]
      by_cases e : f' a = f' i <;> simp [dif, e, e1]
    · rw [if_neg e1, key 0 (Or.inl rfl)]
      by_cases e : f' a = f' i <;> simp [dif, e, e1]
  · intro N c' hc'
    simp only [fX6_pairsApart_15, fX6_pairsApart_88]
    rw [if_pos (by omega), c32_n (by omega) (by omega), ob, hc']
    rfl
def apart (n : Nat) (f g : Nat → Int) : Int := sumN n (fun a => sumN a (fun b => dif f g a b))
theorem pairsApart_ok {h : Hp} {q q' n : Nat} {k k' : Int} {f f' : Nat → Int} (hn1 : 1 ≤ n) (hn : n ≤ 12) (P : isPt h q n k f) (P' : isPt h q' n k' f') : fX6_pairsApart q q' h = some (apart n f f', h) := by
  have hin := pairsApart_in hn P P'
  obtain ⟨p0, -⟩ := P
  unfold fX6_pairsApart
  refine lp (fun N i (c' : Int) => fX6_pairsApart_4 N q q' c' i h) (fun i c' => c' = sumN i (fun a => sumN a (fun b => dif f f' a b))) n (fun o => o = some (apart n f f', h)) ?_ ?_ FU 1 0 hn1 (FU_lt (by omega)) (by simp [sumN])
  · intro N i c' hi hc'
    have hb : 0 ≤ sumN i (fun a => sumN a (fun b => dif f f' a b)) ∧ sumN i (fun a => sumN a (fun b => dif f f' a b)) ≤ i * 12 := by
      refine ⟨sumN_nonneg (fun j _ => (sumN_01 (fun l _ => dif_01 _ _ _ _)).1), sumN_le (fun j hj => ?_)⟩
      have := (sumN_01 (n := j) (F := fun b => dif f f' j b) (fun l _ => dif_01 _ _ _ _)).2
      omega
    refine ⟨_, rfl, ?_⟩
    simp only [fX6_pairsApart_4]
    rw [gI 0 p0 rfl, ob, if_neg (by omega), hin (fX6_pairsApart_4 N) i hi c' (by omega), hc']
    rfl
  · intro N c' hc'
    simp only [fX6_pairsApart_4, fX6_pairsApart_94]
    rw [gI 0 p0 rfl, ob, if_pos (by omega), hc']; rfl
/-- which of two names stands ahead -/
def ahead (n : Nat) (f g : Nat → Int) : Prop := ∃ i, i < n ∧ f i < g i ∧ ∀ j, j < i → f j = g j
theorem standsAhead_ok {h : Hp} {q q' n : Nat} {k k' n' : Int} {f f' : Nat → Int} (hn : n ≤ 12) (P : isPt h q n k f) (P' : isPt h q' n' k' f') : ∃ r, fX6_standsAhead q q' h = some (r, h) ∧ ((r = 1 ∧ ahead n f f') ∨ (r = 0 ∧ ¬ ahead n f f')) := by
  obtain ⟨p0, p1, g, p2⟩ := P
  obtain ⟨r0, r1, g', r2⟩ := P'
  unfold fX6_standsAhead
  refine lpe (fun N i (_ : Unit) => fX6_standsAhead_2 N q q' i h) (fun i _ => ∀ j, j < i → f j = f' j) n (fun o => ∃ r, o = some (r, h) ∧ ((r = 1 ∧ ahead n f f') ∨ (r = 0 ∧ ¬ ahead n f f'))) ?_ ?_ FU 0 () (Nat.zero_le _) (FU_lt (by omega)) (fun j hj => by omega)
  · intro N i _ hi he
    simp only [fX6_standsAhead_2]
    rw [gI 0 p0 rfl, ob, if_neg (by omega), gR 2 p0 rfl, ob, ald_of i p1 rfl (by omega), ob, gR 2 r0 rfl, ob, ald_of i r1 rfl (by omega), ob]
    by_cases e : f i = f' i
    · right
      refine ⟨(), fun j hj => ?_, ?_⟩
      · by_cases ej : j = i
        · subst ej; exact e
        · exact he j (by omega)
      · rw [if_pos e, c32_n (by omega) (by omega), ob]; rfl
    · left
      rw [if_neg e]
      simp only [fX6_standsAhead_25, fX6_standsAhead_45]
      rw [gR 2 p0 rfl, ob, ald_of i p1 rfl (by omega), ob, gR 2 r0 rfl, ob, ald_of i r1 rfl (by omega), ob]
      by_cases e2 : f' i ≤ f i
      · rw [if_pos e2]
        refine ⟨0, rfl, Or.inr ⟨rfl, ?_⟩⟩
        intro ⟨l, hl, z1, z2⟩
        rcases Nat.lt_trichotomy l i with z | z | z
        · have := he l z; omega
        · subst z; omega
        · exact e (z2 i z)
      · rw [if_neg e2]
        exact ⟨1, rfl, Or.inl ⟨rfl, i, hi, by omega, he⟩⟩
  · intro N _ he
    simp only [fX6_standsAhead_2, fX6_standsAhead_52]
    rw [gI 0 p0 rfl, ob, if_pos (by omega)]
    refine ⟨0, rfl, Or.inr ⟨rfl, ?_⟩⟩
    rintro ⟨l, hl, z1, -⟩
    have := he l hl; omega
