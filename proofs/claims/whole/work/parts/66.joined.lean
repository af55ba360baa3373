section
variable {h h' : Hp} {s : Scn} {hist : List Scn} {x : Aux} {flt : Int}
theorem CI.tre (C : CI h s hist x flt) : ∃ sz hl O T H B, h.2 14 = some (obj 9 [vi x.2.1.1, vi sz, vr 15, vr 16, vr 17, vr 18, vi hl]) ∧ h.2 15 = some (arr 0 12 O) ∧ h.2 16 = some (arr 0 12 T) ∧ h.2 17 = some (arr 0 12 H) ∧ h.2 18 = some (arr 0 144 B) ∧ Eqn x.2.1.1.toNat O x.2.1.2.1 ∧ Eqn x.2.1.1.toNat T x.2.1.2.2.1 ∧ Eqn x.2.1.1.toNat H x.2.1.2.2.2 := C.2.2.2.2.1
theorem RI.tre (R : RI h s hist x flt) : ∃ O T H, h.2 70 = some (arr 0 12 O) ∧ h.2 71 = some (arr 0 12 T) ∧ h.2 72 = some (arr 0 12 H) ∧ Eqn x.2.1.1.toNat O x.2.1.2.1 ∧ Eqn x.2.1.1.toNat T x.2.1.2.2.1 ∧ Eqn x.2.1.1.toNat H x.2.1.2.2.2 := R.2.2.1
end
theorem both_joined {h : Hp} (B : Both h) (a b : Int) : ∃ r h1 h2, fX11_joined 1 a b h = some (r, h1) ∧ fX12_joined 62 a b h1 = some (r, h2) ∧ Both h2 := by
  obtain ⟨s, hist, x, flt, G, C, R⟩ := B
  have hn := G.1.2.1
  have ref : ∀ z : Int, ∃ h2 h3, ((cob h 10 1).bind fun _ => (fX11_refuse 1 z h).bind fun p2 => some (p2.1, p2.2)) = some (-1, hput h 1 (BO z)) ∧ putV (hput h 1 (BO z)) 11 62 19 (vi 0) = some h2 ∧ RI h2 s hist x 0 ∧ ((cob h2 11 62).bind fun _ => (fX12_no 62 z h2).bind fun p2 => some (p2.1, p2.2)) = some (-1, h3) ∧ Both h3 := by
    intro z
    obtain ⟨h2, h3, e2, R2, e3, B3⟩ := refuse2 G C R z
    exact ⟨h2, h3, by rw [co C.1, ob, c_refuse C z, ob], e2, R2, by rw [R2.cb, ob, e3, ob], B3⟩
  obtain ⟨sz, hl, O, T, H, Bt, t0, -⟩ := C.tre
  have gt := G.2.2.2.1
  unfold fX11_joined fX12_joined
  simp only [fX11_joined_32, fX12_joined_40, fX12_joined_79]
  by_cases k1 : x.2.1.1 = -1
  · obtain ⟨h2, h3, r1, r2, R2, r3, r4⟩ := ref 2
    obtain ⟨pa, fp, sm, o⟩ := R2.obj
    exact ⟨-1, _, h3, by rw [gR 3 C.1 rfl, ob, gI 0 t0 rfl, ob, if_pos k1, r1], by rw [r2, ob, gI 11 o rfl, ob, if_pos k1, r3], r4⟩
  by_cases a1 : 0 ≤ a ∧ a < x.2.1.1
  · obtain ⟨i, rfl⟩ := Int.eq_ofNat_of_zero_le a1.1
    have hi : i < x.2.1.1.toNat := by omega
    have hi12 : i < 12 := by rcases gt with z | z <;> omega
    by_cases b1 : 0 ≤ b ∧ b ≤ 2
    · obtain ⟨h2, e2, R2, C1, F2, B2⟩ := read2 G C R
      obtain ⟨sz', hl', O', T', H', Bt', u0, u1, u2, u3, u4, q1, q2, q3⟩ := C1.tre
      obtain ⟨O2, T2, H2, w1, w2, w3, y1, y2, y3⟩ := R2.tre
      obtain ⟨pa, fp, sm, o⟩ := R2.obj
      by_cases b0 : b = 0
      · refine ⟨x.2.1.2.1 i, hput h 1 (BO 0), h2, ?_, ?_, B2⟩
        · rw [gR 3 C.1 rfl, ob, gI 0 t0 rfl, ob, if_neg k1, if_neg (by omega), ob, gI 0 t0 rfl, ob, if_pos a1.2, C.put1 0, ob, if_pos b0, gR 3 C1.1 rfl, ob, gR 2 u0 rfl, ob, ald_of i u1 rfl hi12, ob, q1 i hi]
        · rw [e2, ob, gI 11 o rfl, ob, if_neg k1, if_neg (by omega), ob, if_neg (by omega), if_neg (by omega), if_pos (by omega), if_pos b0, gR 12 o rfl, ob, ald_of i w1 rfl hi12, ob, y1 i hi]
      by_cases b1' : b = 1
      · refine ⟨x.2.1.2.2.1 i, hput h 1 (BO 0), h2, ?_, ?_, B2⟩
        · rw [gR 3 C.1 rfl, ob, gI 0 t0 rfl, ob, if_neg k1, if_neg (by omega), ob, gI 0 t0 rfl, ob, if_pos a1.2, C.put1 0, ob, if_neg b0, if_pos b1', gR 3 C1.1 rfl, ob, gR 3 u0 rfl, ob, ald_of i u2 rfl hi12, ob, q2 i hi]
        · rw [e2, ob, gI 11 o rfl, ob, if_neg k1, if_neg (by omega), ob, if_neg (by omega), if_neg (by omega), if_pos (by omega), if_neg b0, if_pos b1', gR 13 o rfl, ob, ald_of i w2 rfl hi12, ob, y2 i hi]
      · refine ⟨x.2.1.2.2.2 i, hput h 1 (BO 0), h2, ?_, ?_, B2⟩
        · rw [gR 3 C.1 rfl, ob, gI 0 t0 rfl, ob, if_neg k1, if_neg (by omega), ob, gI 0 t0 rfl, ob, if_pos a1.2, C.put1 0, ob, if_neg b0, if_neg b1', if_pos (by omega), gR 3 C1.1 rfl, ob, gR 4 u0 rfl, ob, ald_of i u3 rfl hi12, ob, q3 i hi]
        · rw [e2, ob, gI 11 o rfl, ob, if_neg k1, if_neg (by omega), ob, if_neg (by omega), if_neg (by omega), if_pos (by omega), if_neg b0, if_neg b1', gR 14 o rfl, ob, ald_of i w3 rfl hi12, ob, y3 i hi]
    · obtain ⟨h2, h3, r1, r2, R2, r3, r4⟩ := ref 1
      obtain ⟨pa, fp, sm, o⟩ := R2.obj
      have C1 := C.set 0
      refine ⟨-1, hput h 1 (BO 1), h3, ?_, ?_, r4⟩
      · rw [gR 3 C.1 rfl, ob, gI 0 t0 rfl, ob, if_neg k1, if_neg (by omega), ob, gI 0 t0 rfl, ob, if_pos a1.2, C.put1 0, ob, if_neg (by omega), if_neg (by omega), if_neg (by omega), co C1.1, ob, c_refuse C1 1, ob, hput_hput]
      · rw [r2, ob, gI 11 o rfl, ob, if_neg k1, if_neg (by omega), ob, if_neg (by omega)]
        by_cases b2 : b < 0
        · rw [if_pos b2, r3]
        · rw [if_neg b2, if_neg (by omega), r3]
  · obtain ⟨h2, h3, r1, r2, R2, r3, r4⟩ := ref 1
    obtain ⟨pa, fp, sm, o⟩ := R2.obj
    refine ⟨-1, hput h 1 (BO 1), h3, ?_, ?_, r4⟩
    · rw [gR 3 C.1 rfl, ob, gI 0 t0 rfl, ob, if_neg k1]
      by_cases a2 : a < 0
      · rw [if_pos a2, r1]
      · rw [if_neg a2, ob, gI 0 t0 rfl, ob, if_neg (by omega), r1]
    · rw [r2, ob, gI 11 o rfl, ob, if_neg k1]
      by_cases a2 : a < 0
      · rw [if_pos a2, r3]
      · rw [if_neg a2, ob, if_pos (by omega), r3]
/-- where things are after so many joins -/
def jn (O T : Nat → Int) : Nat → Nat → Int
  | 0, t => t
  | i + 1, t => if jn O T i t = T i then O i else jn O T i t
theorem jn_congr {O O' T T' : Nat → Int} {m : Nat} (e1 : Eqn m O O') (e2 : Eqn m T T') (t : Nat) : ∀ i, i ≤ m → jn O T i t = jn O' T' i t := by
  intro i
  induction i with
  | zero => intro _; rfl
  | succ i ih => intro hi; simp only [jn]; rw [ih (by omega), e1 i (by omega), e2 i (by omega)]
theorem jn_in {O T : Nat → Int} {n m : Nat} (hO : ∀ i, i < m → 0 ≤ O i ∧ O i < n) {t : Nat} (ht : t < n) : ∀ i, i ≤ m → 0 ≤ jn O T i t ∧ jn O T i t < n := by
  intro i
  induction i with
  | zero => intro _; show 0 ≤ (t : Int) ∧ (t : Int) < n; omega
  | succ i ih =>
    intro hi
    simp only [jn]
    split
    · exact hO i (by omega)
    · exact ih (by omega)
/-- the height of the join by which two things come together -/
def isHgt (O T H : Nat → Int) (m a b : Nat) (r : Int) : Prop := (∃ i, i < m ∧ jn O T (i + 1) a = jn O T (i + 1) b ∧ (∀ j, j < i → jn O T (j + 1) a ≠ jn O T (j + 1) b) ∧ r = H i) ∨ ((∀ j, j < m → jn O T (j + 1) a ≠ jn O T (j + 1) b) ∧ r = 0)
theorem isHgt.uq {O T H : Nat → Int} {m a b : Nat} {r r' : Int} (h : isHgt O T H m a b r) (h' : isHgt O T H m a b r') : r = r' := by
  rcases h with ⟨i, hi, e, n, rfl⟩ | ⟨n, rfl⟩ <;> rcases h' with ⟨i', hi', e', n', rfl⟩ | ⟨n', rfl⟩
  · have : i = i' := by
      rcases Nat.lt_trichotomy i i' with z | z | z
      · exact absurd e (n' i z)
      · exact z
      · exact absurd e' (n i' z)
    rw [this]
  · exact absurd e (n' i hi)
  · exact absurd e' (n i' hi')
  · rfl
theorem c_heightOf {h : Hp} {s : Scn} {hist : List Scn} {x : Aux} {flt : Int} (C : CI h s hist x flt) (m : Nat) (hm : x.2.1.1 = m) (hm12 : m ≤ 12) (a b : Nat) (hab : a ≠ b) : ∃ r, fX10_heightOf 14 a b h = some (r, h) ∧ isHgt x.2.1.2.1 x.2.1.2.2.1 x.2.1.2.2.2 m a b r := by
  obtain ⟨sz', hl', O', T', H', Bt', u0, u1, u2, u3, u4, q1, q2, q3⟩ := C.tre
  rw [hm] at u0 q1 q2 q3
  have q1 : Eqn m O' x.2.1.2.1 := q1
  have q2 : Eqn m T' x.2.1.2.2.1 := q2
  have q3 : Eqn m H' x.2.1.2.2.2 := q3
  generalize x.2.1.2.1 = O at *
  generalize x.2.1.2.2.1 = T at *
  generalize x.2.1.2.2.2 = H at *
  unfold fX10_heightOf
  refine lpe (fun N i (z : Int × Int) => fX10_heightOf_8 N 14 a b z.1 z.2 i h) (fun i z => z.1 = jn O T i a ∧ z.2 = jn O T i b ∧ ∀ j, j < i → jn O T (j + 1) a ≠ jn O T (j + 1) b) m (fun o => ∃ r, o = some (r, h) ∧ isHgt O T H m a b r) ?_ ?_ FU 0 (a, b) (Nat.zero_le _) (FU_lt (by omega)) ⟨rfl, rfl, fun j hj => by omega⟩
  · intro N i ⟨z1, z2⟩ hi ⟨h1, h2, h3⟩
    have h1 : z1 = jn O T i a := h1
    have h2 : z2 = jn O T i b := h2
    have ea : ∀ k8, (if z1 = T i then (getR h 9 14 2).bind (fun v7 => (ald h 0 v7 (i : Int)).bind fun v8 => fX10_heightOf_44 k8 14 a b z2 i v8 h) else fX10_heightOf_44 k8 14 a b z2 i z1 h) = fX10_heightOf_44 k8 14 a b z2 i (jn O T (i + 1) a) h := by
      intro k8
      simp only [jn]
      rw [← h1]
      by_cases y : z1 = T i
      · rw [if_pos y, if_pos y, gR 2 u0 rfl, ob, ald_of i u1 rfl (by omega), ob, q1 i hi]
      · rw [if_neg y, if_neg y]
    have eb : ∀ k8, fX10_heightOf_44 k8 14 a b z2 i (jn O T (i + 1) a) h = fX10_heightOf_69 k8 14 a b (jn O T (i + 1) a) i (jn O T (i + 1) b) h := by
      intro k8
      simp only [fX10_heightOf_44]
      rw [gR 3 u0 rfl, ob, ald_of i u2 rfl (by omega), ob, q2 i hi]
      have : jn O T (i + 1) b = if z2 = T i then O i else z2 := by simp only [jn]; rw [h2]
      rw [this]
      by_cases y : z2 = T i
      · rw [if_pos y, if_pos y, gR 2 u0 rfl, ob, ald_of i u1 rfl (by omega), ob, q1 i hi]
      · rw [if_neg y, if_neg y]
    simp only [fX10_heightOf_8]
    rw [gI 0 u0 rfl, ob, if_neg (by omega), if_neg (by omega), gR 3 u0 rfl, ob, ald_of i u2 rfl (by omega), ob, q2 i hi, ea, eb]
    simp only [fX10_heightOf_69, fX10_heightOf_77]
    by_cases y : jn O T (i + 1) a = jn O T (i + 1) b
    · left
      rw [if_pos y, gR 4 u0 rfl, ob, ald_of i u3 rfl (by omega), ob, q3 i hi]
      exact ⟨_, rfl, Or.inl ⟨i, hi, y, h3, rfl⟩⟩
    · right
      rw [if_neg y, c32_n (by omega) (by omega), ob]
      refine ⟨(jn O T (i + 1) a, jn O T (i + 1) b), ⟨rfl, rfl, fun j hj => ?_⟩, rfl⟩
      by_cases w : j = i
      · subst w; exact y
      · exact h3 j (by omega)
  · intro N ⟨z1, z2⟩ ⟨h1, h2, h3⟩
    simp only [fX10_heightOf_8, fX10_heightOf_91]
    rw [gI 0 u0 rfl, ob, if_pos (by omega)]
    exact ⟨0, rfl, Or.inr ⟨h3, rfl⟩⟩
section
variable {h : Hp} {s : Scn} {hist : List Scn} {x : Aux} {flt : Int}
theorem r_join (R : RI h s hist x flt) (hn : sn s ≤ 12) {m : Nat} (hm : m ≤ x.2.1.1.toNat) (hm12 : m ≤ 12) : ∃ h' F, fX12_join 62 m h = some h' ∧ h'.2 76 = some (arr 0 12 F) ∧ (∀ t, t < sn s → F t = jn x.2.1.2.1 x.2.1.2.2.1 m t) ∧ RI h' s hist x flt ∧ Fr (fun k => k = 76) h h' := by
  obtain ⟨r1, r2, r3, r4, r5, s1, s2, s3, s4, s5⟩ := R.scr
  have L1 : ∃ h' F, fX12_join 62 m h = fX12_join_23 62 m h' ∧ h'.2 76 = some (arr 0 12 F) ∧ (∀ t, t < sn s → F t = (t : Int)) ∧ RI h' s hist x flt ∧ Fr (fun k => k = 76) h h' := by
    unfold fX12_join
    refine lp (fun N i (s' : Hp) => fX12_join_2 N 62 m i s') (fun i s' => ∃ F, s'.2 76 = some (arr 0 12 F) ∧ (∀ t, t < i → F t = (t : Int)) ∧ RI s' s hist x flt ∧ Fr (fun k => k = 76) h s') (sn s) (fun o => ∃ h' F, o = fX12_join_23 62 m h' ∧ h'.2 76 = some (arr 0 12 F) ∧ (∀ t, t < sn s → F t = (t : Int)) ∧ RI h' s hist x flt ∧ Fr (fun k => k = 76) h h') ?_ ?_ FU 0 h (Nat.zero_le _) (FU_lt (by omega)) ⟨r1, s1, fun j hj => by omega, R, Fr.rf⟩
    · intro N i s' hi ⟨F, a1, a2, a3, a5⟩
      obtain ⟨pa, fp, sm, o⟩ := a3.obj
      simp only [fX12_join_2]
      rw [a3.nb, if_neg (by show ¬ (sn s : Int) ≤ i; omega), gR 20 o rfl, ob, ast_of i a1 rfl (by omega), ob, c32_n (by omega) (by omega), ob]
      refine ⟨_, ⟨_, hput_eq, fun j hj => ?_, a3.pu (by omega) _, a5.put rfl⟩, rfl⟩
      rw [ups_at]
      by_cases z : j = i
      · subst z; rw [if_pos rfl]
      · rw [if_neg z]; exact a2 j (by omega)
    · intro N s' ⟨F, a1, a2, a3, a5⟩
      simp only [fX12_join_2]
      rw [a3.nb, if_pos (by show (sn s : Int) ≤ sn s; omega)]
      exact ⟨s', F, rfl, a1, a2, a3, a5⟩
  obtain ⟨h1, F1, e1, m1, q1, R1, Fr1⟩ := L1
  rw [e1]
  unfold fX12_join_23
  refine lp (fun N i (s' : Hp) => fX12_join_25 N 62 m i s') (fun i s' => ∃ F, s'.2 76 = some (arr 0 12 F) ∧ (∀ t, t < sn s → F t = jn x.2.1.2.1 x.2.1.2.2.1 i t) ∧ RI s' s hist x flt ∧ Fr (fun k => k = 76) h s') m (fun o => ∃ h' F, o = some h' ∧ h'.2 76 = some (arr 0 12 F) ∧ (∀ t, t < sn s → F t = jn x.2.1.2.1 x.2.1.2.2.1 m t) ∧ RI h' s hist x flt ∧ Fr (fun k => k = 76) h h') ?_ ?_ FU 0 h1 (Nat.zero_le _) (FU_lt (by omega)) ⟨F1, m1, q1, R1, Fr1⟩
  · intro N i s' hi ⟨F, a1, a2, a3, a5⟩
    simp only [fX12_join_25]
    rw [if_neg (by omega)]
    have L : ∃ s2, fX12_join_32 (fX12_join_25 N) FU 62 m i 0 s' = fX12_join_73 (fX12_join_25 N) 62 m i s2 ∧ ∃ F, s2.2 76 = some (arr 0 12 F) ∧ (∀ t, t < sn s → F t = jn x.2.1.2.1 x.2.1.2.2.1 (i + 1) t) ∧ RI s2 s hist x flt ∧ Fr (fun k => k = 76) h s2 := by
      refine lp (fun N' t (s' : Hp) => fX12_join_32 (fX12_join_25 N) N' 62 m i t s') (fun t s' => ∃ F, s'.2 76 = some (arr 0 12 F) ∧ (∀ j, j < t → F j = jn x.2.1.2.1 x.2.1.2.2.1 (i + 1) j) ∧ (∀ j, t ≤ j → j < sn s → F j = jn x.2.1.2.1 x.2.1.2.2.1 i j) ∧ RI s' s hist x flt ∧ Fr (fun k => k = 76) h s') (sn s) (fun o => ∃ s2, o = fX12_join_73 (fX12_join_25 N) 62 m i s2 ∧ ∃ F, s2.2 76 = some (arr 0 12 F) ∧ (∀ t, t < sn s → F t = jn x.2.1.2.1 x.2.1.2.2.1 (i + 1) t) ∧ RI s2 s hist x flt ∧ Fr (fun k => k = 76) h s2) ?_ ?_ FU 0 s' (Nat.zero_le _) (FU_lt (by omega)) ⟨F, a1, fun j hj => by omega, fun j _ hj => a2 j hj, a3, a5⟩
      · intro N' t s3 ht ⟨F, b1, b2, b3, b4, b5⟩
        obtain ⟨pa, fp, sm, o⟩ := b4.obj
        obtain ⟨O2, T2, H2, w1, w2, w3, y1, y2, y3⟩ := b4.tre
        simp only [fX12_join_32, fX12_join_67]
        rw [b4.nb, if_neg (by show ¬ (sn s : Int) ≤ t; omega), gR 20 o rfl, ob, ald_of t b1 rfl (by omega), ob, gR 13 o rfl, ob, ald_of i w2 rfl (by omega), ob, y2 i (by omega), b3 t (Nat.le_refl _) ht]
        by_cases z : jn x.2.1.2.1 x.2.1.2.2.1 i t = x.2.1.2.2.1 i
        · rw [if_pos z, ob, gR 12 o rfl, ob, ald_of i w1 rfl (by omega), ob, y1 i (by omega), ast_of t b1 rfl (by omega), ob, c32_n (by omega) (by omega), ob]
          refine ⟨_, ⟨_, hput_eq, fun j hj => ?_, fun j h1 h2 => ?_, b4.pu (by omega) _, b5.put rfl⟩, rfl⟩
          · rw [ups_at]
            by_cases y : j = t
            · subst y; rw [if_pos rfl]; simp only [jn]; rw [if_pos z]
            · rw [if_neg y]; exact b2 j (by omega)
          · rw [ups_at, if_neg (by omega)]; exact b3 j (by omega) h2
        · rw [if_neg z, c32_n (by omega) (by omega), ob]
          refine ⟨s3, ⟨F, b1, fun j hj => ?_, fun j h1 h2 => b3 j (by omega) h2, b4, b5⟩, rfl⟩
          by_cases y : j = t
          · subst y; simp only [jn]; rw [if_neg z]; exact b3 j (Nat.le_refl _) ht
          · exact b2 j (by omega)
      · intro N' s3 ⟨F, b1, b2, b3, b4, b5⟩
        simp only [fX12_join_32]
        rw [b4.nb, if_pos (by show (sn s : Int) ≤ sn s; omega)]
        exact ⟨s3, rfl, F, b1, b2, b4, b5⟩
    obtain ⟨s2, e2, I2⟩ := L
    refine ⟨s2, I2, ?_⟩
    have e2' : fX12_join_32 (fX12_join_25 N) FU 62 m i 0 s' = fX12_join_73 (fX12_join_25 N) 62 m i s2 := e2
    rw [e2']
    simp only [fX12_join_73]
    rw [c32_n (by omega) (by omega), ob]; rfl
  · intro N s' ⟨F, a1, a2, a3, a5⟩
    simp only [fX12_join_25, fX12_join_79]
    rw [if_pos (by omega)]
    exact ⟨s', F, rfl, a1, a2, a3, a5⟩
end
