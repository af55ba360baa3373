abbrev scO (q : Nat) (n : Int) : AC := obj 6 [vi n, vr (q + 1), vr (q + 2), vr (q + 3), vr (q + 4), vr (q + 5)]
theorem cpS {β : Type} {h : Hp} {a a' m : Nat} {ns ns' : Int} {G G' : Nat → Int} (j : Nat) (hj : j = 1 ∨ j = 2 ∨ j = 3 ∨ j = 4) (o : h.2 a = some (scO a ns)) (o' : h.2 a' = some (scO a' ns')) (e : h.2 (a + j) = some (arr 0 m G)) (e' : h.2 (a' + j) = some (arr 0 m G')) (hm : m ≤ 1000) (k : Hp → Option β) :
    ((getR h 6 a' j).bind fun v3 => (getR h 6 a j).bind fun v4 => (getR h 6 a j).bind fun v5 => (aln h 0 v5).bind fun v6 => (cpyI h v3 0 v4 0 v6).bind k) = k (hput h (a + j) (arr 0 m (fun k => if k < m then G' k else G k))) := by
  have g1 : getR h 6 a' j = some (a' + j) := by rcases hj with rfl | rfl | rfl | rfl <;> exact gR _ o' rfl
  have g2 : getR h 6 a j = some (a + j) := by rcases hj with rfl | rfl | rfl | rfl <;> exact gR _ o rfl
  rw [g1, g2, ob, ob, ob, aln_of e, ob, cpyI_of m e' e rfl (by omega) (by omega) (by omega), ob]
set_option maxHeartbeats 2000000 in
theorem scCopy_ok {h : Hp} {q q' : Nat} {n m k n' k' : Int} {P W X K f P' W' X' K' f' : Nat → Int} (S : isSq h q n m P W X K k f) (S' : isSc h q' n' P' W' X' K' k' f') (hd : q + 8 ≤ q' ∨ q' + 8 ≤ q) :
    ∃ h' P2 W2 X2 K2 f2, fX7_copyFrom q q' h = some h' ∧ isSc h' q n' P2 W2 X2 K2 k' f2 ∧ Eqn 48 P2 P' ∧ Eqn 144 W2 W' ∧ Eqn 144 X2 X' ∧ Eqn 144 K2 K' ∧ Eqn 12 f2 f' ∧ Fr (scs q) h h' := by
  obtain ⟨s0, s1, s2, s3, s4, s5⟩ := S
  have S'' := S'
  obtain ⟨r0, r1, r2, r3, r4, r5⟩ := S'
  unfold fX7_copyFrom
  rw [gI 0 r0 rfl, ob, pV (fs' := [vi n', vr (q + 1), vr (q + 2), vr (q + 3), vr (q + 4), vr (q + 5)]) 0 s0 (by simp) rfl, ob]
  rw [cpS 1 (by omega) (ns := n') (ns' := n') hput_eq ((hput_ne (by omega)).trans r0) ((hput_ne (by omega)).trans s1) ((hput_ne (by omega)).trans r1) (by omega)]
  rw [cpS 2 (by omega) (ns := n') (ns' := n') ((hput_ne (by omega)).trans hput_eq) ((hput_ne (by omega)).trans ((hput_ne (by omega)).trans r0)) ((hput_ne (by omega)).trans ((hput_ne (by omega)).trans s2)) ((hput_ne (by omega)).trans ((hput_ne (by omega)).trans r2)) (by omega)]
  rw [cpS 3 (by omega) (ns := n') (ns' := n') ((hput_ne (by omega)).trans ((hput_ne (by omega)).trans hput_eq)) ((hput_ne (by omega)).trans ((hput_ne (by omega)).trans ((hput_ne (by omega)).trans r0))) ((hput_ne (by omega)).trans ((hput_ne (by omega)).trans ((hput_ne (by omega)).trans s3))) ((hput_ne (by omega)).trans ((hput_ne (by omega)).trans ((hput_ne (by omega)).trans r3))) (by omega)]
  rw [cpS 4 (by omega) (ns := n') (ns' := n') ((hput_ne (by omega)).trans ((hput_ne (by omega)).trans ((hput_ne (by omega)).trans hput_eq))) ((hput_ne (by omega)).trans ((hput_ne (by omega)).trans ((hput_ne (by omega)).trans ((hput_ne (by omega)).trans r0)))) ((hput_ne (by omega)).trans ((hput_ne (by omega)).trans ((hput_ne (by omega)).trans ((hput_ne (by omega)).trans s4)))) ((hput_ne (by omega)).trans ((hput_ne (by omega)).trans ((hput_ne (by omega)).trans ((hput_ne (by omega)).trans r4)))) (by omega)]
  generalize hG : hput (hput (hput (hput (hput h q (scO q n')) (q + 1) (arr 0 48 fun k => if k < 48 then P' k else P k)) (q + 2) (arr 0 144 fun k => if k < 144 then W' k else W k)) (q + 3) (arr 0 144 fun k => if k < 144 then X' k else X k)) (q + 4) (arr 0 144 fun k => if k < 144 then K' k else K k) = g
  have F0 : Fr (fun k => q ≤ k ∧ k ≤ q + 4) h g := by
    rw [← hG]
    exact ((((Fr.rf.put ⟨by omega, by omega⟩).put ⟨by omega, by omega⟩).put ⟨by omega, by omega⟩).put ⟨by omega, by omega⟩).put ⟨by omega, by omega⟩
  have b0 : g.2 q = some (scO q n') := by rw [← hG]; exact (hput_ne (by omega)).trans ((hput_ne (by omega)).trans ((hput_ne (by omega)).trans ((hput_ne (by omega)).trans hput_eq)))
  have b1 : g.2 (q + 1) = some (arr 0 48 fun k => if k < 48 then P' k else P k) := by rw [← hG]; exact (hput_ne (by omega)).trans ((hput_ne (by omega)).trans ((hput_ne (by omega)).trans hput_eq))
  have b2 : g.2 (q + 2) = some (arr 0 144 fun k => if k < 144 then W' k else W k) := by rw [← hG]; exact (hput_ne (by omega)).trans ((hput_ne (by omega)).trans hput_eq)
  have b3 : g.2 (q + 3) = some (arr 0 144 fun k => if k < 144 then X' k else X k) := by rw [← hG]; exact (hput_ne (by omega)).trans hput_eq
  have b4 : g.2 (q + 4) = some (arr 0 144 fun k => if k < 144 then K' k else K k) := by rw [← hG]; exact hput_eq
  have b5 : isPt g (q + 5) m k f := s5.fr F0 (fun j hj => by rcases hj with rfl | rfl | rfl <;> omega)
  have c0 := isSq.fr F0 S'' (fun j hj => by obtain ⟨z1, z2⟩ := hj; omega)
  obtain ⟨g3, f2, e5, P5, z5, F2⟩ := ptCopy_ok b5 c0.2.2.2.2.2 (by omega)
  rw [gR 5 b0 rfl, ob, gR 5 c0.1 rfl, ob, co b5.1, ob, e5, ob]
  refine ⟨g3, _, _, _, _, f2, rfl, ⟨(F2.2 _ (by intro z; rcases z with z | z | z <;> omega)).trans b0, (F2.2 _ (by intro z; rcases z with z | z | z <;> omega)).trans b1, (F2.2 _ (by intro z; rcases z with z | z | z <;> omega)).trans b2, (F2.2 _ (by intro z; rcases z with z | z | z <;> omega)).trans b3, (F2.2 _ (by intro z; rcases z with z | z | z <;> omega)).trans b4, P5⟩, fun i hi => by simp [hi], fun i hi => by simp [hi], fun i hi => by simp [hi], fun i hi => by simp [hi], z5, (F0.mono (fun k hk => ⟨by omega, by omega⟩)).tr (F2.mono (fun k hk => pts_scs hk))⟩
theorem pulls_ok {h : Hp} {q : Nat} {n : Int} {P W X K : Nat → Int} {k : Int} {f : Nat → Int} (S : isSc h q n P W X K k f) {i j : Nat} (hi : i < 12) (hj : j < 12) : fX7_pulls q i j h = some (if 0 < X (12 * i + j) ∧ K (12 * i + j) = 1 then 1 else 0, h) := by
  unfold fX7_pulls
  rw [co S.1, ob, weightOf_ok S hi hj, ob]
  simp only [fX7_pulls_23, fX7_pulls_24]
  by_cases e : X (12 * i + j) ≤ 0
  · rw [if_pos e, if_neg (by omega)]; rfl
  · rw [if_neg e, co S.1, ob, likeOf_ok S hi hj, ob]
    by_cases e2 : K (12 * i + j) = 1
    · rw [if_pos e2, if_pos (by omega)]; rfl
    · rw [if_neg e2, if_neg (by omega)]; rfl
/-- how far two places are -/
def gap1 (P : Nat → Int) (a b i : Nat) : Int := max (P (4 * a + i) - P (4 * b + i)) (-(P (4 * a + i) - P (4 * b + i)))
def gapM (P : Nat → Int) (a b kd : Nat) : Nat → Int
  | 0 => 0
  | i + 1 => if kd = 0 then gapM P a b kd i + gap1 P a b i else if kd = 1 then max (gapM P a b kd i) (gap1 P a b i) else gapM P a b kd i + gap1 P a b i * gap1 P a b i
theorem gap1_le {P : Nat → Int} (hP : ∀ i, i < 48 → -1000 ≤ P i ∧ P i ≤ 1000) {a b i : Nat} (ha : a < 12) (hb : b < 12) (hi : i < 4) : 0 ≤ gap1 P a b i ∧ gap1 P a b i ≤ 2000 := by
  have h1 := hP (4 * a + i) (by omega); have h2 := hP (4 * b + i) (by omega)
  unfold gap1; omega
theorem gapM_le {P : Nat → Int} (hP : ∀ i, i < 48 → -1000 ≤ P i ∧ P i ≤ 1000) {a b kd : Nat} (ha : a < 12) (hb : b < 12) : ∀ i, i ≤ 4 → 0 ≤ gapM P a b kd i ∧ gapM P a b kd i ≤ i * 4000000 := by
  intro i
  induction i with
  | zero => intro _; simp [gapM]
  | succ i ih =>
    intro hi
    have h1 := ih (by omega); have h2 := gap1_le hP ha hb (i := i) (by omega)
    have h3 : 0 ≤ gap1 P a b i * gap1 P a b i ∧ gap1 P a b i * gap1 P a b i ≤ 4000000 := by
      constructor
      · exact Int.mul_nonneg h2.1 h2.1
      · calc gap1 P a b i * gap1 P a b i ≤ 2000 * 2000 := Int.mul_le_mul h2.2 h2.2 h2.1 (by omega)
          _ = 4000000 := by omega
    simp only [gapM]
    split
    · omega
    · split <;> omega
theorem gapOf_ok {h : Hp} {q : Nat} {n : Int} {P W X K : Nat → Int} {k : Int} {f : Nat → Int} (S : isSc h q n P W X K k f) (hP : ∀ i, i < 48 → -1000 ≤ P i ∧ P i ≤ 1000) {a b kd : Nat} (ha : a < 12) (hb : b < 12) (hk : kd < 3) : fX7_gapOf q a b kd h = some (gapM P a b kd 4, h) := by
  obtain ⟨s0, s1, -⟩ := S
  unfold fX7_gapOf
  refine lp (fun N i (c : Int) => fX7_gapOf_6 N q a b kd c i h) (fun i c => c = gapM P a b kd i) 4 (fun o => o = some (gapM P a b kd 4, h)) ?_ ?_ FU 0 0 (Nat.zero_le _) (FU_lt (by omega)) rfl
  · intro N i c hi hc
    have h1 := gapM_le hP ha hb (kd := kd) i (by omega); have h2 := gap1_le hP ha hb (i := i) hi
    have h0 := gapM_le hP ha hb (kd := kd) (i + 1) (by omega)
    refine ⟨_, rfl, ?_⟩
    simp only [fX7_gapOf_6, fX7_gapOf_81]
    rw [if_neg (by omega), gR 1 s0 rfl, ob, ald_of (4 * a + i) s1 (by omega) (by omega), ob, ob, ald_of (4 * b + i) s1 (by omega) (by omega), ob]
    have h4 := hP (4 * a + i) (by omega); have h5 := hP (4 * b + i) (by omega)
    have e1 : max (P (4 * a + i) - P (4 * b + i)) (-(P (4 * a + i) - P (4 * b + i))) = gap1 P a b i := rfl
    rw [c32_n (by omega) (by omega), ob, e1, c32_n (by omega) (by omega), ob, hc]
    simp only [gapM] at h0 ⊢
    by_cases k0 : kd = 0
    · subst k0
      simp only [if_pos] at h0
      rw [if_pos (by omega), c32_n (by omega) (by omega), ob, c32_n (by omega) (by omega), ob]; rfl
    · by_cases k1 : kd = 1
      · subst k1
        rw [if_neg (by omega), if_pos (by omega), c32_n (by omega) (by omega), ob]; rfl
      · rw [if_neg k0, if_neg k1] at h0
        rw [if_neg (by omega), if_neg (by omega), c32_n (by omega) (by omega), ob, c32_n (by omega) (by omega), ob, if_neg k0, if_neg k1]; rfl
  · intro N c hc
    simp only [fX7_gapOf_6, fX7_gapOf_87]
    rw [if_pos (by omega), hc]
