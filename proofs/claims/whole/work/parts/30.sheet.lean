theorem fillL {h : Hp} {q m : Nat} {F : Nat → Int} (v : Int) (hm : m ≤ 1000000) (hq : h.2 q = some (arr 1 m F)) : ∃ G, fJ7_fill_d0a16 q v h = some (hput h q (arr 1 m G)) ∧ ∀ j, j < m → G j = v := by
  unfold fJ7_fill_d0a16
  rw [aln_of hq, ob]
  suffices z : ∃ G, fJ7_fill_d0a16_6 FU q v ((0 : Nat) : Int) m (hput h q (arr 1 m F)) = some (hput h q (arr 1 m G)) ∧ ∀ j, j < m → G j = v by
    rw [hput_self hq] at z; exact z
  refine lp (fun N i (g : Nat → Int) => fJ7_fill_d0a16_6 N q v i m (hput h q (arr 1 m g))) (fun i g => ∀ j, j < i → g j = v) m (fun o => ∃ G, o = some (hput h q (arr 1 m G)) ∧ ∀ j, j < m → G j = v) ?_ ?_ FU 0 F (Nat.zero_le _) (FU_lt (by omega)) (fun j hj => by omega)
  · intro N i g hi hg
    refine ⟨ups g i v, ?_, ?_⟩
    · intro j hj
      by_cases e : j = i
      · simp [ups_at, e]
      · simp [ups_at, e, hg j (by omega)]
    · simp only [fJ7_fill_d0a16_6]
      rw [if_neg (by omega), ast_of i hput_eq rfl hi, ob, hput_hput, c32_n (by omega) (by omega), ob]
      rfl
  · intro N g hg
    simp only [fJ7_fill_d0a16_6, fJ7_fill_d0a16_22]
    rw [if_pos (by omega)]
    exact ⟨g, rfl, hg⟩
def isSh (h : Hp) (q : Nat) (k n : Int) (E : Nat → Int) : Prop := h.2 q = some (obj 8 [vi k, vi n, vr (q + 1)]) ∧ h.2 (q + 1) = some (arr 1 8 E)
def shs (q k : Nat) : Prop := k = q ∨ k = q + 1
theorem renew_ok {h : Hp} {q : Nat} {k n : Int} {E : Nat → Int} (S : isSh h q k n E) (k' n' : Int) : ∃ h' E', fX9_renew q k' n' h = some h' ∧ isSh h' q k' n' E' ∧ Eqn 8 E' (fun _ => 0) ∧ Fr (shs q) h h' := by
  obtain ⟨s0, s1⟩ := S
  unfold fX9_renew
  rw [pV (fs' := [vi k', vi n, vr (q + 1)]) 0 s0 (by simp) rfl, ob, pV (fs' := [vi k', vi n', vr (q + 1)]) 1 hput_eq (by simp) rfl, ob, hput_hput, gR 2 hput_eq rfl, ob]
  obtain ⟨G, e1, hG⟩ := fillL 0 (by omega) ((hput_ne (show q + 1 ≠ q by omega)).trans s1 : (hput h q (obj 8 [vi k', vi n', vr (q + 1)])).2 (q + 1) = _)
  rw [e1, ob]
  exact ⟨_, G, rfl, ⟨(hput_ne (by omega)).trans hput_eq, hput_eq⟩, hG, (Fr.rf.put (Or.inl rfl)).put (Or.inr rfl)⟩
theorem shdrop_ok {h : Hp} {q : Nat} {k n : Int} {E : Nat → Int} (S : isSh h q k n E) : ∃ h' E', fX9_drop q h = some h' ∧ isSh h' q (-1) (-1) E' ∧ Eqn 8 E' (fun _ => 0) ∧ Fr (shs q) h h' := by
  obtain ⟨h', E', e, r⟩ := renew_ok S (-1) (-1)
  exact ⟨h', E', by unfold fX9_drop; rw [co S.1, ob, e, ob], r⟩
/-- what an entry becomes -/
def nrw (k : Int) (v : Int) : Int := if k = 0 then w8 (l2w v) else if k = 1 then w16 (l2w v) else if k = 2 then l2w v else v
theorem write_ok {h : Hp} {q : Nat} {k n : Int} {E : Nat → Int} (S : isSh h q k n E) {i : Nat} (hi : i < 8) (v : Int) : fX9_write q i v h = some (hput h (q + 1) (arr 1 8 (ups E i (nrw k v)))) := by
  obtain ⟨s0, s1⟩ := S
  unfold fX9_write
  rw [gI 0 s0 rfl, ob, gR 2 s0 rfl]
  simp only [fX9_write_77, ob, nrw]
  by_cases e0 : k = 0
  · rw [if_pos e0, if_pos e0, ast_of i s1 rfl hi, ob]
  · by_cases e1 : k = 1
    · rw [if_neg e0, if_neg e0, if_pos e1, if_pos e1, ast_of i s1 rfl hi, ob]
    · by_cases e2 : k = 2
      · rw [if_neg e0, if_neg e0, if_neg e1, if_neg e1, if_pos e2, if_pos e2, ast_of i s1 rfl hi, ob]
      · rw [if_neg e0, if_neg e0, if_neg e1, if_neg e1, if_neg e2, if_neg e2, ast_of i s1 rfl hi, ob]
theorem lCmp_lt (x y : Int) : lCmp x y < 0 ↔ x < y := by unfold lCmp; split <;> (try split) <;> omega
theorem lCmp_le (x y : Int) : lCmp x y ≤ 0 ↔ x ≤ y := by unfold lCmp; split <;> (try split) <;> omega
theorem lCmp_gt (x y : Int) : 0 < lCmp x y ↔ y < x := by unfold lCmp; split <;> (try split) <;> omega
theorem lCmp_ge (x y : Int) : 0 ≤ lCmp x y ↔ y ≤ x := by unfold lCmp; split <;> (try split) <;> omega
theorem lCmp_eq (x y : Int) : lCmp x y = 0 ↔ x = y := by unfold lCmp; split <;> (try split) <;> omega
theorem isPlace_ok {h : Hp} {q : Nat} {k n : Int} {E : Nat → Int} (S : isSh h q k n E) : ∃ r, fX9_isPlace q h = some (r, h) ∧ ((r = 1 ∧ ∀ i, i < 4 → -1000 ≤ E i ∧ E i ≤ 1000) ∨ (r = 0 ∧ ¬ ∀ i, i < 4 → -1000 ≤ E i ∧ E i ≤ 1000)) := by
  obtain ⟨s0, s1⟩ := S
  unfold fX9_isPlace
  refine lpe (fun N i (_ : Unit) => fX9_isPlace_2 N q i h) (fun i _ => ∀ j, j < i → -1000 ≤ E j ∧ E j ≤ 1000) 4 (fun o => ∃ r, o = some (r, h) ∧ ((r = 1 ∧ ∀ i, i < 4 → -1000 ≤ E i ∧ E i ≤ 1000) ∨ (r = 0 ∧ ¬ ∀ i, i < 4 → -1000 ≤ E i ∧ E i ≤ 1000))) ?_ ?_ FU 0 () (Nat.zero_le _) (FU_lt (by omega)) (fun j hj => by omega)
  · intro N i _ hi he
    simp only [fX9_isPlace_2, fX9_isPlace_33, lCmp_lt, lCmp_le]
    rw [if_neg (by omega), gR 2 s0 rfl, ob, ald_of i s1 rfl (by omega), ob]
    by_cases c1 : E i < -1000
    · left
      rw [if_pos c1]
      exact ⟨0, rfl, Or.inr ⟨rfl, fun z => by have := z i hi; omega⟩⟩
    · rw [if_neg c1, ob, ald_of i s1 rfl (by omega), ob]
      by_cases c2 : E i ≤ 1000
      · right
        refine ⟨(), fun j hj => ?_, ?_⟩
        · by_cases e : j = i
          · subst e; omega
          · exact he j (by omega)
        · rw [if_pos c2, c32_n (by omega) (by omega), ob]; rfl
      · left
        rw [if_neg c2]
        exact ⟨0, rfl, Or.inr ⟨rfl, fun z => by have := z i hi; omega⟩⟩
  · intro N _ he
    simp only [fX9_isPlace_2, fX9_isPlace_41]
    rw [if_pos (by omega)]
    exact ⟨1, rfl, Or.inl ⟨rfl, he⟩⟩
