set_option maxHeartbeats 2000000 in
theorem begin_ok {h : Hp} {pa fp sk sm jn li fl : Int} {Z P W X K N : Nat → Int} (o : h.2 62 = some (MO pa fp sk sm jn li fl)) (M : M6 h Z P W X K N) (n : Int) :
    ∃ h' P' W' X' K' N', fX12_begin 62 n h = some h' ∧ h'.2 62 = some (MO pa fp sk sm (-1) li fl) ∧ M6 h' (ups Z 0 n) P' W' X' K' N' ∧ (∀ i, P' i = if i < 48 then 0 else P i) ∧ (∀ i, W' i = if i < 144 then 0 else W i) ∧ (∀ i, X' i = if i < 144 then 0 else X i) ∧ (∀ i, K' i = if i < 144 then 0 else K i) ∧ (∀ i, N' i = if i < 12 then 0 else N i) ∧ Fr (fun k => 62 ≤ k ∧ k ≤ 68) h h' := by
  obtain ⟨m0, m1, m2, m3, m4, m5⟩ := M
  unfold fX12_begin
  rw [gR 0 o rfl, ob, ast_of (i := 0) 0 m0 rfl (by omega), ob]
  have st : ∀ {F G : Nat → Int} {i : Nat}, (∀ j, G j = if j < i then 0 else F j) → ∀ j, ups G i 0 j = if j < i + 1 then 0 else F j := by
    intro F G i hg j
    rw [ups_at]
    by_cases e : j = i
    · rw [if_pos e, if_pos (by omega)]
    · rw [if_neg e, hg j]
      by_cases e2 : j < i
      · rw [if_pos e2, if_pos (by omega)]
      · rw [if_neg e2, if_neg (by omega)]
  have z0 : ∀ F : Nat → Int, ∀ j, F j = if j < 0 then 0 else F j := fun F j => by rw [if_neg (by omega)]
  have L3 : ∀ (g : Hp) (P' W' X' K' : Nat → Int), g.2 62 = some (MO pa fp sk sm jn li fl) → M6 g (ups Z 0 n) P' W' X' K' N → (∀ i, P' i = if i < 48 then 0 else P i) → (∀ i, W' i = if i < 144 then 0 else W i) → (∀ i, X' i = if i < 144 then 0 else X i) → (∀ i, K' i = if i < 144 then 0 else K i) → Fr (fun k => 62 ≤ k ∧ k ≤ 68) h g → ∃ h' P' W' X' K' N', fX12_begin_66 FU 62 ((0 : Nat) : Int) g = some h' ∧ h'.2 62 = some (MO pa fp sk sm (-1) li fl) ∧ M6 h' (ups Z 0 n) P' W' X' K' N' ∧ (∀ i, P' i = if i < 48 then 0 else P i) ∧ (∀ i, W' i = if i < 144 then 0 else W i) ∧ (∀ i, X' i = if i < 144 then 0 else X i) ∧ (∀ i, K' i = if i < 144 then 0 else K i) ∧ (∀ i, N' i = if i < 12 then 0 else N i) ∧ Fr (fun k => 62 ≤ k ∧ k ≤ 68) h h' := by
    intro g P' W' X' K' o' M' y1 y2 y3 y4 F'
    refine lp (fun N0 i (s : Hp) => fX12_begin_66 N0 62 i s) (fun i s => ∃ G, s.2 62 = some (MO pa fp sk sm jn li fl) ∧ M6 s (ups Z 0 n) P' W' X' K' G ∧ (∀ j, G j = if j < i then 0 else N j) ∧ Fr (fun k => 62 ≤ k ∧ k ≤ 68) h s) 12 (fun o => ∃ h' P' W' X' K' N', o = some h' ∧ h'.2 62 = some (MO pa fp sk sm (-1) li fl) ∧ M6 h' (ups Z 0 n) P' W' X' K' N' ∧ (∀ i, P' i = if i < 48 then 0 else P i) ∧ (∀ i, W' i = if i < 144 then 0 else W i) ∧ (∀ i, X' i = if i < 144 then 0 else X i) ∧ (∀ i, K' i = if i < 144 then 0 else K i) ∧ (∀ i, N' i = if i < 12 then 0 else N i) ∧ Fr (fun k => 62 ≤ k ∧ k ≤ 68) h h') ?_ ?_ FU 0 g (Nat.zero_le _) (FU_lt (by omega)) ⟨N, o', M', z0 N, F'⟩
    · intro N0 i s hi ⟨G, q0, ⟨q1, q2, q3, q4, q5, q6⟩, q7, q8⟩
      simp only [fX12_begin_66]
      rw [if_neg (by omega), gR 5 q0 rfl, ob, ast_of i q6 rfl (by omega), ob, c32_n (by omega) (by omega), ob]
      exact ⟨_, ⟨_, (hput_ne (by omega)).trans q0, ⟨(hput_ne (by omega)).trans q1, (hput_ne (by omega)).trans q2, (hput_ne (by omega)).trans q3, (hput_ne (by omega)).trans q4, (hput_ne (by omega)).trans q5, hput_eq⟩, st q7, q8.put ⟨by omega, by omega⟩⟩, rfl⟩
    · intro N0 s ⟨G, q0, ⟨q1, q2, q3, q4, q5, q6⟩, q7, q8⟩
      simp only [fX12_begin_66, fX12_begin_85]
      rw [if_pos (by omega), pV (fs' := [vr 63, vr 64, vr 65, vr 66, vr 67, vr 68, vi pa, vi fp, vi sk, vi sm, vr 69, vi (-1), vr 70, vr 71, vr 72, vr 73, vr 74, vr 75, vi li, vi fl, vr 76, vr 77, vr 78, vr 79, vr 80]) 11 q0 (by simp) rfl, ob]
      exact ⟨_, P', W', X', K', G, rfl, hput_eq, ⟨(hput_ne (by omega)).trans q1, (hput_ne (by omega)).trans q2, (hput_ne (by omega)).trans q3, (hput_ne (by omega)).trans q4, (hput_ne (by omega)).trans q5, (hput_ne (by omega)).trans q6⟩, y1, y2, y3, y4, q7, q8.put ⟨by omega, by omega⟩⟩
  have L2 : ∀ (g : Hp) (P' : Nat → Int), g.2 62 = some (MO pa fp sk sm jn li fl) → M6 g (ups Z 0 n) P' W X K N → (∀ i, P' i = if i < 48 then 0 else P i) → Fr (fun k => 62 ≤ k ∧ k ≤ 68) h g → ∃ h' P' W' X' K' N', fX12_begin_30 FU 62 ((0 : Nat) : Int) g = some h' ∧ h'.2 62 = some (MO pa fp sk sm (-1) li fl) ∧ M6 h' (ups Z 0 n) P' W' X' K' N' ∧ (∀ i, P' i = if i < 48 then 0 else P i) ∧ (∀ i, W' i = if i < 144 then 0 else W i) ∧ (∀ i, X' i = if i < 144 then 0 else X i) ∧ (∀ i, K' i = if i < 144 then 0 else K i) ∧ (∀ i, N' i = if i < 12 then 0 else N i) ∧ Fr (fun k => 62 ≤ k ∧ k ≤ 68) h h' := by
    intro g P' o' M' y1 F'
    refine lp (fun N0 i (s : Hp) => fX12_begin_30 N0 62 i s) (fun i s => ∃ W' X' K', s.2 62 = some (MO pa fp sk sm jn li fl) ∧ M6 s (ups Z 0 n) P' W' X' K' N ∧ (∀ j, W' j = if j < i then 0 else W j) ∧ (∀ j, X' j = if j < i then 0 else X j) ∧ (∀ j, K' j = if j < i then 0 else K j) ∧ Fr (fun k => 62 ≤ k ∧ k ≤ 68) h s) 144 (fun o => ∃ h' P' W' X' K' N', o = some h' ∧ h'.2 62 = some (MO pa fp sk sm (-1) li fl) ∧ M6 h' (ups Z 0 n) P' W' X' K' N' ∧ (∀ i, P' i = if i < 48 then 0 else P i) ∧ (∀ i, W' i = if i < 144 then 0 else W i) ∧ (∀ i, X' i = if i < 144 then 0 else X i) ∧ (∀ i, K' i = if i < 144 then 0 else K i) ∧ (∀ i, N' i = if i < 12 then 0 else N i) ∧ Fr (fun k => 62 ≤ k ∧ k ≤ 68) h h') ?_ ?_ FU 0 g (Nat.zero_le _) (FU_lt (by omega)) ⟨W, X, K, o', M', z0 W, z0 X, z0 K, F'⟩
    · intro N0 i s hi ⟨W', X', K', q0, ⟨q1, q2, q3, q4, q5, q6⟩, q7, q8, q9, q10⟩
      simp only [fX12_begin_30]
      rw [if_neg (by omega), gR 2 q0 rfl, ob, ast_of i q3 rfl (by omega), ob, gR 3 ((hput_ne (by omega)).trans q0) rfl, ob, ast_of i ((hput_ne (by omega)).trans q4) rfl (by omega), ob, gR 4 ((hput_ne (by omega)).trans ((hput_ne (by omega)).trans q0)) rfl, ob, ast_of i ((hput_ne (by omega)).trans ((hput_ne (by omega)).trans q5)) rfl (by omega), ob, c32_n (by omega) (by omega), ob]
      exact ⟨_, ⟨_, _, _, (hput_ne (by omega)).trans ((hput_ne (by omega)).trans ((hput_ne (by omega)).trans q0)), ⟨(hput_ne (by omega)).trans ((hput_ne (by omega)).trans ((hput_ne (by omega)).trans q1)), (hput_ne (by omega)).trans ((hput_ne (by omega)).trans ((hput_ne (by omega)).trans q2)), (hput_ne (by omega)).trans ((hput_ne (by omega)).trans hput_eq), (hput_ne (by omega)).trans hput_eq, hput_eq, (hput_ne (by omega)).trans ((hput_ne (by omega)).trans ((hput_ne (by omega)).trans q6))⟩, st q7, st q8, st q9, ((q10.put ⟨by omega, by omega⟩).put ⟨by omega, by omega⟩).put ⟨by omega, by omega⟩⟩, rfl⟩
    · intro N0 s ⟨W', X', K', q0, q1, q7, q8, q9, q10⟩
      simp only [fX12_begin_30, fX12_begin_64]
      rw [if_pos (by omega)]
      exact L3 s P' W' X' K' q0 q1 y1 q7 q8 q9 q10
  refine lp (fun N0 i (s : Hp) => fX12_begin_9 N0 62 i s) (fun i s => ∃ G, s.2 62 = some (MO pa fp sk sm jn li fl) ∧ M6 s (ups Z 0 n) G W X K N ∧ (∀ j, G j = if j < i then 0 else P j) ∧ Fr (fun k => 62 ≤ k ∧ k ≤ 68) h s) 48 (fun o => ∃ h' P' W' X' K' N', o = some h' ∧ h'.2 62 = some (MO pa fp sk sm (-1) li fl) ∧ M6 h' (ups Z 0 n) P' W' X' K' N' ∧ (∀ i, P' i = if i < 48 then 0 else P i) ∧ (∀ i, W' i = if i < 144 then 0 else W i) ∧ (∀ i, X' i = if i < 144 then 0 else X i) ∧ (∀ i, K' i = if i < 144 then 0 else K i) ∧ (∀ i, N' i = if i < 12 then 0 else N i) ∧ Fr (fun k => 62 ≤ k ∧ k ≤ 68) h h') ?_ ?_ FU 0 _ (Nat.zero_le _) (FU_lt (by omega)) ⟨P, (hput_ne (by omega)).trans o, ⟨hput_eq, (hput_ne (by omega)).trans m1, (hput_ne (by omega)).trans m2, (hput_ne (by omega)).trans m3, (hput_ne (by omega)).trans m4, (hput_ne (by omega)).trans m5⟩, z0 P, Fr.rf.put ⟨by omega, by omega⟩⟩
  · intro N0 i s hi ⟨G, q0, ⟨q1, q2, q3, q4, q5, q6⟩, q7, q8⟩
    simp only [fX12_begin_9]
    rw [if_neg (by omega), gR 1 q0 rfl, ob, ast_of i q2 rfl (by omega), ob, c32_n (by omega) (by omega), ob]
    exact ⟨_, ⟨_, (hput_ne (by omega)).trans q0, ⟨(hput_ne (by omega)).trans q1, hput_eq, (hput_ne (by omega)).trans q3, (hput_ne (by omega)).trans q4, (hput_ne (by omega)).trans q5, (hput_ne (by omega)).trans q6⟩, st q7, q8.put ⟨by omega, by omega⟩⟩, rfl⟩
  · intro N0 s ⟨G, q0, q1, q7, q8⟩
    simp only [fX12_begin_9, fX12_begin_28]
    rw [if_pos (by omega)]
    exact L2 s G q0 q1 q7 q8
