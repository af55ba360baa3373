/-- the reference's object: its own numbers among its rows -/
abbrev MO (pa fp sk sm jn li fl : Int) : AC := obj 11 [vr 63, vr 64, vr 65, vr 66, vr 67, vr 68, vi pa, vi fp, vi sk, vi sm, vr 69, vi jn, vr 70, vr 71, vr 72, vr 73, vr 74, vr 75, vi li, vi fl, vr 76, vr 77, vr 78, vr 79, vr 80]
def isM (h : Hp) : Prop := ∃ pa fp sk sm jn li fl, h.2 62 = some (MO pa fp sk sm jn li fl)
def M6 (h : Hp) (Z P W X K N : Nat → Int) : Prop := h.2 63 = some (arr 0 21 Z) ∧ h.2 64 = some (arr 0 1008 P) ∧ h.2 65 = some (arr 0 3024 W) ∧ h.2 66 = some (arr 0 3024 X) ∧ h.2 67 = some (arr 2 3024 K) ∧ h.2 68 = some (arr 0 252 N)
/-- F' is F but that m places from b on hold what stood from a on -/
def Cpd (m a b : Nat) (F F' : Nat → Int) : Prop := (∀ i, i < m → F' (b + i) = F (a + i)) ∧ ∀ j, j < b ∨ b + m ≤ j → F' j = F j
theorem Cpd.rf (a b : Nat) (F : Nat → Int) : Cpd 0 a b F F := ⟨fun i hi => by omega, fun _ _ => rfl⟩
theorem Cpd.step {m a b : Nat} {F G : Nat → Int} (h : Cpd m a b F G) (hd : a + m < b ∨ b + m ≤ a + m) (hd2 : a + m + 1 ≤ b ∨ b + m < a + m + 1) (hn : a + m < b ∨ b + m ≤ a + m) : Cpd (m + 1) a b F (ups G (b + m) (G (a + m))) := by
  have e : G (a + m) = F (a + m) := h.2 _ (by omega)
  refine ⟨fun i hi => ?_, fun j hj => ?_⟩
  · rw [ups_at]
    by_cases z : i = m
    · subst z; simp [e]
    · rw [if_neg (by omega)]; exact h.1 i (by omega)
  · rw [ups_at, if_neg (by omega)]; exact h.2 j (by omega)
theorem cbo_n {z : Int} (h : z = 0 ∨ z = 1) : cbo z = some () := if_pos h
set_option maxHeartbeats 4000000 in
theorem copy_ok {h : Hp} {pa fp sk sm jn li fl : Int} {Z P W X K N : Nat → Int} (o : h.2 62 = some (MO pa fp sk sm jn li fl)) (M : M6 h Z P W X K N) {a b : Nat} (ha : a ≤ 20) (hb : b ≤ 20) (hab : a ≠ b) (hK : ∀ i, i < 144 → K (144 * a + i) = 0 ∨ K (144 * a + i) = 1) :
    ∃ h' P' W' X' K' N', fX12_copy 62 a b h = some h' ∧ M6 h' (ups Z b (Z a)) P' W' X' K' N' ∧ Cpd 48 (48 * a) (48 * b) P P' ∧ Cpd 144 (144 * a) (144 * b) W W' ∧ Cpd 144 (144 * a) (144 * b) X X' ∧ Cpd 144 (144 * a) (144 * b) K K' ∧ Cpd 12 (12 * a) (12 * b) N N' ∧ Fr (fun k => 63 ≤ k ∧ k ≤ 68) h h' := by
  obtain ⟨m0, m1, m2, m3, m4, m5⟩ := M
  unfold fX12_copy
  rw [gR 0 o rfl, ob, ob, ald_of a m0 rfl (by omega), ob, ast_of b m0 rfl (by omega), ob]
  -- the last loop
  have L3 : ∀ (g : Hp) (P' W' X' K' : Nat → Int), g.2 62 = some (MO pa fp sk sm jn li fl) → M6 g (ups Z b (Z a)) P' W' X' K' N → Cpd 48 (48 * a) (48 * b) P P' → Cpd 144 (144 * a) (144 * b) W W' → Cpd 144 (144 * a) (144 * b) X X' → Cpd 144 (144 * a) (144 * b) K K' → Fr (fun k => 63 ≤ k ∧ k ≤ 68) h g → ∃ h' P' W' X' K' N', fX12_copy_137 FU 62 a b ((0 : Nat) : Int) g = some h' ∧ M6 h' (ups Z b (Z a)) P' W' X' K' N' ∧ Cpd 48 (48 * a) (48 * b) P P' ∧ Cpd 144 (144 * a) (144 * b) W W' ∧ Cpd 144 (144 * a) (144 * b) X X' ∧ Cpd 144 (144 * a) (144 * b) K K' ∧ Cpd 12 (12 * a) (12 * b) N N' ∧ Fr (fun k => 63 ≤ k ∧ k ≤ 68) h h' := by
    intro g P' W' X' K' o' M' y1 y2 y3 y4 F'
    refine lp (fun N0 i (s : Hp) => fX12_copy_137 N0 62 a b i s) (fun i s => ∃ G, s.2 62 = some (MO pa fp sk sm jn li fl) ∧ M6 s (ups Z b (Z a)) P' W' X' K' G ∧ Cpd i (12 * a) (12 * b) N G ∧ Fr (fun k => 63 ≤ k ∧ k ≤ 68) h s) 12 (fun o => ∃ h' P' W' X' K' N', o = some h' ∧ M6 h' (ups Z b (Z a)) P' W' X' K' N' ∧ Cpd 48 (48 * a) (48 * b) P P' ∧ Cpd 144 (144 * a) (144 * b) W W' ∧ Cpd 144 (144 * a) (144 * b) X X' ∧ Cpd 144 (144 * a) (144 * b) K K' ∧ Cpd 12 (12 * a) (12 * b) N N' ∧ Fr (fun k => 63 ≤ k ∧ k ≤ 68) h h') ?_ ?_ FU 0 g (Nat.zero_le _) (FU_lt (by omega)) ⟨N, o', M', Cpd.rf _ _ _, F'⟩
    · intro N0 i s hi ⟨G, q0, ⟨q1, q2, q3, q4, q5, q6⟩, q7, q8⟩
      simp only [fX12_copy_137]
      rw [if_neg (by omega), gR 5 q0 rfl, ob, ob, ald_of (12 * a + i) q6 (by omega) (by omega), ob, ast_of (12 * b + i) q6 (by omega) (by omega), ob, c32_n (by omega) (by omega), ob]
      exact ⟨_, ⟨_, (hput_ne (by omega)).trans q0, ⟨(hput_ne (by omega)).trans q1, (hput_ne (by omega)).trans q2, (hput_ne (by omega)).trans q3, (hput_ne (by omega)).trans q4, (hput_ne (by omega)).trans q5, hput_eq⟩, q7.step (by omega) (by omega) (by omega), q8.put ⟨by omega, by omega⟩⟩, rfl⟩
    · intro N0 s ⟨G, q0, q1, q7, q8⟩
      simp only [fX12_copy_137, fX12_copy_171]
      rw [if_pos (by omega)]
      exact ⟨s, P', W', X', K', G, rfl, q1, y1, y2, y3, y4, q7, q8⟩
  have L2 : ∀ (g : Hp) (P' : Nat → Int), g.2 62 = some (MO pa fp sk sm jn li fl) → M6 g (ups Z b (Z a)) P' W X K N → Cpd 48 (48 * a) (48 * b) P P' → Fr (fun k => 63 ≤ k ∧ k ≤ 68) h g → ∃ h' P' W' X' K' N', fX12_copy_50 FU 62 a b ((0 : Nat) : Int) g = some h' ∧ M6 h' (ups Z b (Z a)) P' W' X' K' N' ∧ Cpd 48 (48 * a) (48 * b) P P' ∧ Cpd 144 (144 * a) (144 * b) W W' ∧ Cpd 144 (144 * a) (144 * b) X X' ∧ Cpd 144 (144 * a) (144 * b) K K' ∧ Cpd 12 (12 * a) (12 * b) N N' ∧ Fr (fun k => 63 ≤ k ∧ k ≤ 68) h h' := by
    intro g P' o' M' y1 F'
    refine lp (fun N0 i (s : Hp) => fX12_copy_50 N0 62 a b i s) (fun i s => ∃ W' X' K', s.2 62 = some (MO pa fp sk sm jn li fl) ∧ M6 s (ups Z b (Z a)) P' W' X' K' N ∧ Cpd i (144 * a) (144 * b) W W' ∧ Cpd i (144 * a) (144 * b) X X' ∧ Cpd i (144 * a) (144 * b) K K' ∧ Fr (fun k => 63 ≤ k ∧ k ≤ 68) h s) 144 (fun o => ∃ h' P' W' X' K' N', o = some h' ∧ M6 h' (ups Z b (Z a)) P' W' X' K' N' ∧ Cpd 48 (48 * a) (48 * b) P P' ∧ Cpd 144 (144 * a) (144 * b) W W' ∧ Cpd 144 (144 * a) (144 * b) X X' ∧ Cpd 144 (144 * a) (144 * b) K K' ∧ Cpd 12 (12 * a) (12 * b) N N' ∧ Fr (fun k => 63 ≤ k ∧ k ≤ 68) h h') ?_ ?_ FU 0 g (Nat.zero_le _) (FU_lt (by omega)) ⟨W, X, K, o', M', Cpd.rf _ _ _, Cpd.rf _ _ _, Cpd.rf _ _ _, F'⟩
    · intro N0 i s hi ⟨W', X', K', q0, ⟨q1, q2, q3, q4, q5, q6⟩, q7, q8, q9, q10⟩
      have ek : K' (144 * a + i) = K (144 * a + i) := q9.2 _ (by omega)
      simp only [fX12_copy_50]
      rw [if_neg (by omega), gR 2 q0 rfl, ob, ob, ald_of (144 * a + i) q3 (by omega) (by omega), ob, ast_of (144 * b + i) q3 (by omega) (by omega), ob,
        gR 3 ((hput_ne (by omega)).trans q0) rfl, ob, ob, ald_of (144 * a + i) ((hput_ne (by omega)).trans q4) (by omega) (by omega), ob, ast_of (144 * b + i) ((hput_ne (by omega)).trans q4) (by omega) (by omega), ob,
        gR 4 ((hput_ne (by omega)).trans ((hput_ne (by omega)).trans q0)) rfl, ob, ob, ald_of (144 * a + i) ((hput_ne (by omega)).trans ((hput_ne (by omega)).trans q5)) (by omega) (by omega), ob, cbo_n (by rw [ek]; exact hK i hi), ob, ast_of (144 * b + i) ((hput_ne (by omega)).trans ((hput_ne (by omega)).trans q5)) (by omega) (by omega), ob, c32_n (by omega) (by omega), ob]
      exact ⟨_, ⟨_, _, _, (hput_ne (by omega)).trans ((hput_ne (by omega)).trans ((hput_ne (by omega)).trans q0)), ⟨(hput_ne (by omega)).trans ((hput_ne (by omega)).trans ((hput_ne (by omega)).trans q1)), (hput_ne (by omega)).trans ((hput_ne (by omega)).trans ((hput_ne (by omega)).trans q2)), (hput_ne (by omega)).trans ((hput_ne (by omega)).trans hput_eq), (hput_ne (by omega)).trans hput_eq, hput_eq, (hput_ne (by omega)).trans ((hput_ne (by omega)).trans ((hput_ne (by omega)).trans q6))⟩, q7.step (by omega) (by omega) (by omega), q8.step (by omega) (by omega) (by omega), q9.step (by omega) (by omega) (by omega), ((q10.put ⟨by omega, by omega⟩).put ⟨by omega, by omega⟩).put ⟨by omega, by omega⟩⟩, rfl⟩
    · intro N0 s ⟨W', X', K', q0, q1, q7, q8, q9, q10⟩
      simp only [fX12_copy_50, fX12_copy_135]
      rw [if_pos (by omega)]
      exact L3 s P' W' X' K' q0 q1 y1 q7 q8 q9 q10
  refine lp (fun N0 i (s : Hp) => fX12_copy_14 N0 62 a b i s) (fun i s => ∃ G, s.2 62 = some (MO pa fp sk sm jn li fl) ∧ M6 s (ups Z b (Z a)) G W X K N ∧ Cpd i (48 * a) (48 * b) P G ∧ Fr (fun k => 63 ≤ k ∧ k ≤ 68) h s) 48 (fun o => ∃ h' P' W' X' K' N', o = some h' ∧ M6 h' (ups Z b (Z a)) P' W' X' K' N' ∧ Cpd 48 (48 * a) (48 * b) P P' ∧ Cpd 144 (144 * a) (144 * b) W W' ∧ Cpd 144 (144 * a) (144 * b) X X' ∧ Cpd 144 (144 * a) (144 * b) K K' ∧ Cpd 12 (12 * a) (12 * b) N N' ∧ Fr (fun k => 63 ≤ k ∧ k ≤ 68) h h') ?_ ?_ FU 0 _ (Nat.zero_le _) (FU_lt (by omega)) ⟨P, (hput_ne (by omega)).trans o, ⟨hput_eq, (hput_ne (by omega)).trans m1, (hput_ne (by omega)).trans m2, (hput_ne (by omega)).trans m3, (hput_ne (by omega)).trans m4, (hput_ne (by omega)).trans m5⟩, Cpd.rf _ _ _, Fr.rf.put ⟨by omega, by omega⟩⟩
  · intro N0 i s hi ⟨G, q0, ⟨q1, q2, q3, q4, q5, q6⟩, q7, q8⟩
    simp only [fX12_copy_14]
    rw [if_neg (by omega), gR 1 q0 rfl, ob, ob, ald_of (48 * a + i) q2 (by omega) (by omega), ob, ast_of (48 * b + i) q2 (by omega) (by omega), ob, c32_n (by omega) (by omega), ob]
    exact ⟨_, ⟨_, (hput_ne (by omega)).trans q0, ⟨(hput_ne (by omega)).trans q1, hput_eq, (hput_ne (by omega)).trans q3, (hput_ne (by omega)).trans q4, (hput_ne (by omega)).trans q5, (hput_ne (by omega)).trans q6⟩, q7.step (by omega) (by omega) (by omega), q8.put ⟨by omega, by omega⟩⟩, rfl⟩
  · intro N0 s ⟨G, q0, q1, q7, q8⟩
    simp only [fX12_copy_14, fX12_copy_48]
    rw [if_pos (by omega)]
    exact L2 s G q0 q1 q7 q8
