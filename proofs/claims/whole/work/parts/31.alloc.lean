theorem hadd_ne {h : Hp} {c : AC} {k : Nat} (hk : k ≠ h.1 + 1) : (hadd h c).2 k = h.2 k := if_neg hk
theorem hadd_eq {h : Hp} {c : AC} : (hadd h c).2 (h.1 + 1) = some c := if_pos rfl
theorem hadd_at {h : Hp} {c : AC} {q : Nat} (hq : q = h.1 + 1) : (hadd h c).2 q = some c := by subst hq; exact hadd_eq
theorem hadd_1 (h : Hp) (c : AC) : (hadd h c).1 = h.1 + 1 := rfl
theorem nO (h : Hp) (c : AC) : newO h c = some (h.1 + 1, hadd h c) := rfl
theorem cr {h : Hp} {q : Nat} (hq : q ≤ h.1) : crf h q = some () := if_pos (Or.inl hq)
/-- heaps that agree below, the new one with its own cells above -/
def Gr (S : Nat → Prop) (h h' : Hp) (m : Nat) : Prop := h'.1 = h.1 + m ∧ ∀ k, k ≤ h.1 → ¬ S k → h'.2 k = h.2 k
set_option maxHeartbeats 1000000 in
theorem ptInit_ok {h : Hp} {a : Nat} (ha : a ≤ h.1) (e : h.2 a = some (obj 5 [vi 0, vi 0, vr 0, vr 0])) : ∃ h', fX6_init a h = some h' ∧ Gr (fun k => k = a) h h' 2 ∧ h'.2 a = some (obj 5 [vi 0, vi 0, vr (h.1 + 1), vr (h.1 + 2)]) ∧ h'.2 (h.1 + 1) = some (arr 0 12 (fun _ => 0)) ∧ h'.2 (h.1 + 2) = some (arr 0 13 (fun _ => 0)) := by
  unfold fX6_init
  rw [co e, ob, pV (fs' := [vi 0, vi 0, vr 0, vr 0]) 0 e (by simp) rfl, ob, pV (fs' := [vi 0, vi 0, vr 0, vr 0]) 1 hput_eq (by simp) rfl, ob, hput_hput, hput_self e, cr ha, ob, nO, ob]
  simp only []
  rw [cr (by rw [hadd_1]; omega), ob, pV (fs' := [vi 0, vi 0, vr (h.1 + 1), vr 0]) 2 ((hadd_ne (by omega)).trans e) (by simp) rfl, ob, cr (by rw [hput_1, hadd_1]; omega), ob, nO, ob]
  simp only [hput_1, hadd_1]
  rw [cr (by rw [hadd_1, hput_1, hadd_1]; omega), ob, pV (fs' := [vi 0, vi 0, vr (h.1 + 1), vr (h.1 + 1 + 1)]) 3 ((hadd_ne (by rw [hput_1, hadd_1]; omega)).trans hput_eq) (by simp) rfl, ob]
  refine ⟨_, rfl, ⟨rfl, fun k hk hs => ?_⟩, hput_eq, ?_, ?_⟩
  · rw [hput_ne hs, hadd_ne (by rw [hput_1, hadd_1]; omega), hput_ne hs, hadd_ne (by omega)]
  · rw [hput_ne (by omega), hadd_ne (by rw [hput_1, hadd_1]; omega), hput_ne (by omega), hadd_eq]
  · rw [hput_ne (by omega), hadd_at (by rw [hput_1, hadd_1])]
set_option maxHeartbeats 2000000 in
theorem scInit_ok {h : Hp} {a : Nat} (ha : a = h.1) (e : h.2 a = some (obj 6 [vi 0, vr 0, vr 0, vr 0, vr 0, vr 0])) : ∃ h', fX7_init a h = some h' ∧ Gr (fun k => k = a) h h' 7 ∧ isSq h' a 1 0 (fun _ => 0) (fun _ => 0) (fun _ => 0) (fun _ => 0) 0 (fun _ => 0) := by
  unfold fX7_init
  have hs : ∀ {g : Hp}, a ≤ g.1 → crf g a = some () := fun z => cr z
  rw [co e, ob, pV (fs' := [vi 1, vr 0, vr 0, vr 0, vr 0, vr 0]) 0 e (by simp) rfl, ob, cr (by rw [hput_1]; omega), ob, nO, ob]
  simp only [hput_1]
  rw [cr (by rw [hadd_1, hput_1]; omega), ob, pV (fs' := [vi 1, vr (h.1 + 1), vr 0, vr 0, vr 0, vr 0]) 1 ((hadd_ne (by rw [hput_1]; omega)).trans hput_eq) (by simp) rfl, ob, cr (by rw [hput_1, hadd_1, hput_1]; omega), ob, nO, ob]
  simp only [hput_1, hadd_1]
  rw [cr (by simp only [hadd_1, hput_1]; omega), ob, pV (fs' := [vi 1, vr (h.1 + 1), vr (h.1 + 1 + 1), vr 0, vr 0, vr 0]) 2 ((hadd_ne (by simp only [hadd_1, hput_1]; omega)).trans hput_eq) (by simp) rfl, ob, cr (by simp only [hadd_1, hput_1]; omega), ob, nO, ob]
  simp only [hput_1, hadd_1]
  rw [cr (by simp only [hadd_1, hput_1]; omega), ob, pV (fs' := [vi 1, vr (h.1 + 1), vr (h.1 + 1 + 1), vr (h.1 + 1 + 1 + 1), vr 0, vr 0]) 3 ((hadd_ne (by simp only [hadd_1, hput_1]; omega)).trans hput_eq) (by simp) rfl, ob, cr (by simp only [hadd_1, hput_1]; omega), ob, nO, ob]
  simp only [hput_1, hadd_1]
  rw [cr (by simp only [hadd_1, hput_1]; omega), ob, pV (fs' := [vi 1, vr (h.1 + 1), vr (h.1 + 1 + 1), vr (h.1 + 1 + 1 + 1), vr (h.1 + 1 + 1 + 1 + 1), vr 0]) 4 ((hadd_ne (by simp only [hadd_1, hput_1]; omega)).trans hput_eq) (by simp) rfl, ob, cr (by simp only [hadd_1, hput_1]; omega), ob, nO, ob]
  simp only [hput_1, hadd_1]
  generalize hg : hput (hadd (hput (hadd (hput (hadd (hput (hadd (hput h a (obj 6 [vi 1, vr 0, vr 0, vr 0, vr 0, vr 0])) (arr 0 48 fun _ => 0)) a (obj 6 [vi 1, vr (h.1 + 1), vr 0, vr 0, vr 0, vr 0])) (arr 0 144 fun _ => 0)) a (obj 6 [vi 1, vr (h.1 + 1), vr (h.1 + 1 + 1), vr 0, vr 0, vr 0])) (arr 0 144 fun _ => 0)) a (obj 6 [vi 1, vr (h.1 + 1), vr (h.1 + 1 + 1), vr (h.1 + 1 + 1 + 1), vr 0, vr 0])) (arr 0 144 fun _ => 0)) a (obj 6 [vi 1, vr (h.1 + 1), vr (h.1 + 1 + 1), vr (h.1 + 1 + 1 + 1), vr (h.1 + 1 + 1 + 1 + 1), vr 0]) = g
  have g1 : g.1 = h.1 + 4 := by rw [← hg]; simp only [hput_1, hadd_1]
  have gk : ∀ k, k ≤ h.1 → k ≠ a → g.2 k = h.2 k := by
    intro k hk hka
    rw [← hg, hput_ne hka, hadd_ne (by simp only [hadd_1, hput_1]; omega), hput_ne hka, hadd_ne (by simp only [hadd_1, hput_1]; omega), hput_ne hka, hadd_ne (by simp only [hadd_1, hput_1]; omega), hput_ne hka, hadd_ne (by simp only [hadd_1, hput_1]; omega), hput_ne hka]
  have ga : g.2 a = some (obj 6 [vi 1, vr (a + 1), vr (a + 2), vr (a + 3), vr (a + 4), vr 0]) := by rw [← hg, hput_eq, ha]
  have gr1 : g.2 (a + 1) = some (arr 0 48 fun _ => 0) := by
    rw [← hg, hput_ne (by omega), hadd_ne (by simp only [hadd_1, hput_1]; omega), hput_ne (by omega), hadd_ne (by simp only [hadd_1, hput_1]; omega), hput_ne (by omega), hadd_ne (by simp only [hadd_1, hput_1]; omega), hput_ne (by omega), hadd_at (by simp only [hadd_1, hput_1]; omega)]
  have gr2 : g.2 (a + 2) = some (arr 0 144 fun _ => 0) := by
    rw [← hg, hput_ne (by omega), hadd_ne (by simp only [hadd_1, hput_1]; omega), hput_ne (by omega), hadd_ne (by simp only [hadd_1, hput_1]; omega), hput_ne (by omega), hadd_at (by simp only [hadd_1, hput_1]; omega)]
  have gr3 : g.2 (a + 3) = some (arr 0 144 fun _ => 0) := by
    rw [← hg, hput_ne (by omega), hadd_ne (by simp only [hadd_1, hput_1]; omega), hput_ne (by omega), hadd_at (by simp only [hadd_1, hput_1]; omega)]
  have gr4 : g.2 (a + 4) = some (arr 0 144 fun _ => 0) := by
    rw [← hg, hput_ne (by omega), hadd_at (by simp only [hadd_1, hput_1]; omega)]
  have hg5 : h.1 + 1 + 1 + 1 + 1 + 1 = a + 5 := by omega
  rw [hg5]
  have f0 : (hadd g (obj 5 [vi 0, vi 0, vr 0, vr 0])).2 (a + 5) = some (obj 5 [vi 0, vi 0, vr 0, vr 0]) := hadd_at (by omega)
  obtain ⟨g2, e2, ⟨k1, k2⟩, q0, q1, q2⟩ := ptInit_ok (h := hadd g (obj 5 [vi 0, vi 0, vr 0, vr 0])) (a := a + 5) (by rw [hadd_1]; omega) f0
  rw [hadd_1] at k1 k2 q0 q1 q2
  have kk : ∀ k, k ≤ a + 4 → g2.2 k = g.2 k := fun k hk => (k2 k (by omega) (by omega)).trans (hadd_ne (by omega))
  rw [co f0, ob, cr (by rw [hadd_1]; omega), ob, cr (by rw [hadd_1]; omega), ob, e2, ob, cr (by omega), ob, pV (fs' := [vi 1, vr (a + 1), vr (a + 2), vr (a + 3), vr (a + 4), vr (a + 5)]) 5 ((kk a (by omega)).trans ga) (by simp) rfl, ob]
  refine ⟨_, rfl, ⟨by rw [hput_1, k1, g1], fun k hk hka => ?_⟩, hput_eq, (hput_ne (by omega)).trans ((kk _ (by omega)).trans gr1), (hput_ne (by omega)).trans ((kk _ (by omega)).trans gr2), (hput_ne (by omega)).trans ((kk _ (by omega)).trans gr3), (hput_ne (by omega)).trans ((kk _ (by omega)).trans gr4), ?_, ?_, (fun _ => 0), ?_⟩
  · rw [hput_ne hka, kk k (by omega), gk k hk hka]
  · rw [hput_ne (by omega), q0, g1, ha]
  · rw [hput_ne (by omega), show a + 5 + 1 = g.1 + 1 + 1 by omega]; exact q1
  · rw [hput_ne (by omega), show a + 5 + 2 = g.1 + 1 + 2 by omega]; exact q2
