/-- the scene with a thing's place told anew -/
def setPl (s : Scn) (t : Nat) (E : Nat → Int) : Scn := (sn s, fun j => if 4 * t ≤ j ∧ j < 4 * t + 4 then E (j - 4 * t) else sP s j, sW s, sX s, sK s, sf s)
theorem setPl_good {s : Scn} (G : GSc s) {t : Nat} {E : Nat → Int} (hE : ∀ i, i < 4 → -1000 ≤ E i ∧ E i ≤ 1000) : GSc (setPl s t E) := by
  obtain ⟨g1, g2, g3, g4⟩ := G
  refine ⟨g1, g2, fun i hi => ?_, g4⟩
  show -1000 ≤ (if 4 * t ≤ i ∧ i < 4 * t + 4 then E (i - 4 * t) else sP s i) ∧ (if 4 * t ≤ i ∧ i < 4 * t + 4 then E (i - 4 * t) else sP s i) ≤ 1000
  split
  · exact hE _ (by omega)
  · exact g3 i hi
theorem l2w_s {v : Int} (h : -1000 ≤ v ∧ v ≤ 1000) : l2w v = v := by
  rw [l2w_b, bm_def]; split <;> omega
/-- the first i numbers of a place are written -/
def Pnew (P0 E : Nat → Int) (t i : Nat) (P : Nat → Int) : Prop := ∀ j, P j = if 4 * t ≤ j ∧ j < 4 * t + i then E (j - 4 * t) else P0 j
theorem Pnew.step {P0 E P : Nat → Int} {t i : Nat} (h : Pnew P0 E t i P) : Pnew P0 E t (i + 1) (ups P (4 * t + i) (E i)) := by
  intro j
  rw [ups_at]
  by_cases e : j = 4 * t + i
  · subst e; rw [if_pos rfl, if_pos (by omega)]; congr 1; omega
  · rw [if_neg e, h j]
    by_cases z : 4 * t ≤ j ∧ j < 4 * t + i
    · rw [if_pos z, if_pos (by omega)]
    · rw [if_neg z, if_neg (by omega)]
theorem c_lay47 {h : Hp} {s : Scn} {hist : List Scn} {x : Aux} {flt : Int} (C : CI h s hist x flt) {t : Nat} (ht : t < 12) (hk : x.1.1 ≠ -1) (hE : ∀ i, i < 4 → -1000 ≤ x.1.2.2 i ∧ x.1.2.2 i ≤ 1000) : ∃ h', fX11_lay_47 FU 1 t 0 h = some (1, h') ∧ CI h' (setPl s t x.1.2.2) hist ((-1, 0, fun _ => 0), x.2) flt ∧ FC h h' := by
  obtain ⟨P, W, X, K, f, ⟨s0, s1, s2, s3, s4, s5⟩, z1, z2, z3, z4, z5⟩ := C.2.1
  obtain ⟨n, E, S, q1, q2⟩ := C.2.2.2.1
  obtain ⟨en, eE⟩ := q2 hk
  have z := lp (fun N i (Pc : Nat → Int) => fX11_lay_47 N 1 t i (hput h 3 (arr 0 48 Pc))) (fun i Pc => Pnew P x.1.2.2 t i Pc) 4 (fun r => ∃ Pc, r = fX11_lay_81 1 (hput h 3 (arr 0 48 Pc)) ∧ Pnew P x.1.2.2 t 4 Pc) ?_ ?_ FU 0 P (Nat.zero_le _) (FU_lt (by omega)) (fun j => by rw [if_neg (by omega)])
  · rw [show hput h 3 (arr 0 48 P) = h from hput_self s1] at z
    obtain ⟨Pc, e1, n1⟩ := z
    have kk : ∀ k, ¬ scs 2 k → (hput h 3 (arr 0 48 Pc)).2 k = h.2 k := fun k hk => hput_ne (fun z => hk ⟨by omega, by omega⟩)
    have C2 : CI (hput h 3 (arr 0 48 Pc)) (setPl s t x.1.2.2) hist x flt := C.scene rfl kk ⟨Pc, W, X, K, f, ⟨(hput_ne (by omega)).trans s0, hput_eq, (hput_ne (by omega)).trans s2, (hput_ne (by omega)).trans s3, (hput_ne (by omega)).trans s4, s5.ag (fun l h1 h2 => hput_ne (by omega))⟩, fun i hi => by
      rw [n1 i]
      show _ = if 4 * t ≤ i ∧ i < 4 * t + 4 then x.1.2.2 (i - 4 * t) else sP s i
      rw [z1 i hi], z2, z3, z4, z5⟩
    obtain ⟨n', E', S', -⟩ := C2.2.2.2.1
    obtain ⟨h3, E3, e3, S3, y3, F3⟩ := shdrop_ok S'
    refine ⟨h3, ?_, C2.she F3 ⟨-1, E3, S3, fun _ => ⟨rfl, y3⟩, fun z => absurd rfl z⟩, (FC.scene kk).tr (FC.she F3)⟩
    rw [show fX11_lay_47 FU 1 t 0 h = fX11_lay_47 FU 1 t ((0 : Nat) : Int) h from rfl, e1]
    unfold fX11_lay_81
    rw [gR 2 C2.1 rfl, ob, co S'.1, ob, e3, ob]
  · intro N i Pc hi hP
    refine ⟨_, hP.step, ?_⟩
    simp only [fX11_lay_47]
    rw [if_neg (by omega), gR 0 ((hput_ne (by omega)).trans C.1) rfl, ob, gR 1 ((hput_ne (by omega)).trans s0) rfl, ob, gR 2 ((hput_ne (by omega)).trans C.1) rfl, ob, gR 2 ((hput_ne (by omega)).trans S.1) rfl, ob, ald_of i ((hput_ne (by omega)).trans S.2) rfl (by omega), ob, ast_of (4 * t + i) hput_eq (by omega) (by omega), ob, hput_hput, c32_n (by omega) (by omega), ob, eE i (by omega), l2w_s (hE i hi)]
    rfl
  · intro N Pc hP
    simp only [fX11_lay_47]
    rw [if_pos (by omega)]
    exact ⟨Pc, rfl, hP⟩
theorem r_lay102 {h : Hp} {s : Scn} {hist : List Scn} {x : Aux} {flt : Int} (R : RI h s hist x flt) {t : Nat} (ht : t < 12) (hk : x.1.1 ≠ -1) (hE : ∀ i, i < 4 → -1000 ≤ x.1.2.2 i ∧ x.1.2.2 i ≤ 1000) : ∃ h', fX12_lay_102 FU 62 t 0 h = some (1, h') ∧ RI h' (setPl s t x.1.2.2) hist ((-1, 0, fun _ => 0), x.2) flt ∧ FM h h' := by
  obtain ⟨⟨pa, fp, sm, Z, P, W, X, K, N, o, M, S, -⟩, ⟨E, b1, b2⟩, -⟩ := id R
  obtain ⟨m0, m1, m2, m3, m4, m5⟩ := id M
  have eE := b2 hk
  have z := lp (fun N i (Pc : Nat → Int) => fX12_lay_102 N 62 t i (hput h 64 (arr 0 1008 Pc))) (fun i Pc => Pnew P x.1.2.2 t i Pc) 4 (fun r => ∃ Pc, r = fX12_lay_130 62 (hput h 64 (arr 0 1008 Pc)) ∧ Pnew P x.1.2.2 t 4 Pc) ?_ ?_ FU 0 P (Nat.zero_le _) (FU_lt (by omega)) (fun j => by rw [if_neg (by omega)])
  · rw [show hput h 64 (arr 0 1008 P) = h from hput_self m1] at z
    obtain ⟨Pc, e1, n1⟩ := z
    obtain ⟨t0, t1, t2, t3, t4, t5⟩ := S
    have R2 : RI (hput h 64 (arr 0 1008 Pc)) (setPl s t x.1.2.2) hist x flt := R.scene (Fr.rf.put ⟨by omega, by omega⟩) ⟨(hput_ne (by omega)).trans m0, hput_eq, (hput_ne (by omega)).trans m2, (hput_ne (by omega)).trans m3, (hput_ne (by omega)).trans m4, (hput_ne (by omega)).trans m5⟩ ⟨t0, fun i hi => by
        rw [n1]
        show _ = if 4 * t ≤ i ∧ i < 4 * t + 4 then x.1.2.2 (i - 4 * t) else sP s i
        have := t1 i hi
        simp only [Nat.mul_zero, Nat.zero_add] at this ⊢
        rw [this], t2, t3, t4, t5⟩ (by
      intro Z0 P0 W0 X0 K0 N0 M0 t' y ht1 ht2 hy
      obtain ⟨u0, u1, u2, u3, u4, u5⟩ := M.uq M0
      subst u0; subst u1; subst u2; subst u3; subst u4; subst u5
      obtain ⟨y0, y1, y2, y3, y4, y5⟩ := hy
      refine ⟨y0, fun k hk => ?_, y2, y3, y4, y5⟩
      rw [n1, if_neg (by omega)]; exact y1 k hk)
    have o2 : (hput h 64 (arr 0 1008 Pc)).2 62 = some (MO pa fp x.1.1 sm x.2.1.1 (x.2.2.2.1 : Int) flt) := (hput_ne (by omega)).trans o
    refine ⟨hput (hput h 64 (arr 0 1008 Pc)) 62 (MO pa fp (-1) sm x.2.1.1 (x.2.2.2.1 : Int) flt), ?_, R2.she (k := -1) (m' := 0) (E' := fun _ => 0) o2 (Fr.rf.put (Or.inl rfl)) hput_eq ((hput_ne (by omega)).trans ((hput_ne (by omega)).trans b1)) (fun z => absurd rfl z) (fun z => absurd rfl z), (FM.put (q := 64) (by omega)).tr (FM.put (q := 62) (by omega))⟩
    rw [show fX12_lay_102 FU 62 t 0 h = fX12_lay_102 FU 62 t ((0 : Nat) : Int) h from rfl, e1]
    unfold fX12_lay_130
    rw [pV (fs' := [vr 63, vr 64, vr 65, vr 66, vr 67, vr 68, vi pa, vi fp, vi (-1), vi sm, vr 69, vi x.2.1.1, vr 70, vr 71, vr 72, vr 73, vr 74, vr 75, vi (x.2.2.2.1 : Int), vi flt, vr 76, vr 77, vr 78, vr 79, vr 80]) 8 o2 (by simp) rfl, ob]
  · intro N0 i Pc hi hP
    refine ⟨_, hP.step, ?_⟩
    simp only [fX12_lay_102]
    rw [if_neg (by omega), gR 1 ((hput_ne (by omega)).trans o) rfl, ob, gR 10 ((hput_ne (by omega)).trans o) rfl, ob, ald_of i ((hput_ne (by omega)).trans b1) rfl (by omega), ob, ast_of (4 * t + i) hput_eq (by omega) (by omega), ob, hput_hput, c32_n (by omega) (by omega), ob, eE i (by omega), l2w_s (hE i hi)]
    rfl
  · intro N0 Pc hP
    simp only [fX12_lay_102]
    rw [if_pos (by omega)]
    exact ⟨Pc, rfl, hP⟩
theorem r_lay13 {h : Hp} {s : Scn} {hist : List Scn} {x : Aux} {flt : Int} (R : RI h s hist x flt) (a : Int) {g0 : Int} (hg : g0 = 0 ∨ g0 = 1) (hk : x.1.1 ≠ -1) : ∃ g, fX12_lay_13 FU 62 a g0 0 h = fX12_lay_68 62 a g h ∧ ((g = 1 ∧ g0 = 1 ∧ ∀ i, i < 4 → -1000 ≤ x.1.2.2 i ∧ x.1.2.2 i ≤ 1000) ∨ (g = 0 ∧ ¬ (g0 = 1 ∧ ∀ i, i < 4 → -1000 ≤ x.1.2.2 i ∧ x.1.2.2 i ≤ 1000))) := by
  obtain ⟨⟨pa, fp, sm, Z, P, W, X, K, N, o, M, S, -⟩, ⟨E, b1, b2⟩, -⟩ := id R
  have eE := b2 hk
  refine lp (fun N i (g : Int) => fX12_lay_13 N 62 a g i h) (fun i g => (g = 1 ∧ g0 = 1 ∧ ∀ j, j < i → -1000 ≤ x.1.2.2 j ∧ x.1.2.2 j ≤ 1000) ∨ (g = 0 ∧ ¬ (g0 = 1 ∧ ∀ i, i < 4 → -1000 ≤ x.1.2.2 i ∧ x.1.2.2 i ≤ 1000))) 4 (fun r => ∃ g, r = fX12_lay_68 62 a g h ∧ ((g = 1 ∧ g0 = 1 ∧ ∀ i, i < 4 → -1000 ≤ x.1.2.2 i ∧ x.1.2.2 i ≤ 1000) ∨ (g = 0 ∧ ¬ (g0 = 1 ∧ ∀ i, i < 4 → -1000 ≤ x.1.2.2 i ∧ x.1.2.2 i ≤ 1000)))) ?_ ?_ FU 0 g0 (Nat.zero_le _) (FU_lt (by omega)) (by
    rcases hg with z | z
    · exact Or.inr ⟨z, fun y => by omega⟩
    · exact Or.inl ⟨z, z, fun j hj => by omega⟩)
  · intro N i g hi hI
    simp only [fX12_lay_13, fX12_lay_60, fX12_lay_61, lCmp_lt, lCmp_gt]
    rcases hI with ⟨h1, h2, h3⟩ | ⟨h1, h2⟩
    · rw [if_neg (by omega), gI 8 o rfl, ob, if_neg hk, if_neg (by omega), gR 10 o rfl, ob, ald_of i b1 rfl (by omega), ob, eE i (by omega)]
      by_cases c1 : x.1.2.2 i < -1000
      · refine ⟨0, Or.inr ⟨rfl, fun z => by have := z.2 i hi; omega⟩, ?_⟩
        rw [if_pos c1, c32_n (by omega) (by omega), ob]; rfl
      · rw [if_neg c1, ob, ald_of i b1 rfl (by omega), ob, eE i (by omega)]
        by_cases c2 : 1000 < x.1.2.2 i
        · refine ⟨0, Or.inr ⟨rfl, fun z => by have := z.2 i hi; omega⟩, ?_⟩
          rw [if_pos c2, c32_n (by omega) (by omega), ob]; rfl
        · refine ⟨1, Or.inl ⟨rfl, h2, fun j hj => ?_⟩, ?_⟩
          · by_cases e : j = i
            · subst e; omega
            · exact h3 j (by omega)
          · rw [if_neg c2, c32_n (by omega) (by omega), ob]; rfl
    · refine ⟨0, Or.inr ⟨rfl, h2⟩, ?_⟩
      rw [if_neg (by omega), gI 8 o rfl, ob, if_neg hk, if_pos h1, c32_n (by omega) (by omega), ob]; rfl
  · intro N g hI
    simp only [fX12_lay_13]
    rw [if_pos (by omega)]
    exact ⟨g, rfl, hI⟩
theorem both_lay {h : Hp} (B : Both h) (a : Int) : ∃ r h1 h2, fX11_lay 1 a h = some (r, h1) ∧ fX12_lay 62 a h1 = some (r, h2) ∧ Both h2 := by
  obtain ⟨s, hist, x, flt, G, C, R⟩ := B
  have hn := G.1.2.1
  obtain ⟨n, E, S, q1, q2⟩ := C.2.2.2.1
  obtain ⟨ip, eip, hip⟩ := isPlace_ok S
  have ref : ∀ z : Int, ∃ h2 h3, ((cob h 10 1).bind fun _ => (fX11_deny 1 z h).bind fun p2 => (cbo p2.1).bind fun _ => some (p2.1, p2.2)) = some (0, hput h 1 (BO z)) ∧ putV (hput h 1 (BO z)) 11 62 19 (vi 0) = some h2 ∧ RI h2 s hist x 0 ∧ fX12_lay_90 z 62 h2 = some (0, h3) ∧ Both h3 := by
    intro z
    obtain ⟨h2, h3, e2, R2, e3, B3⟩ := refuse2 G C R z
    exact ⟨h2, h3, by rw [co C.1, ob, c_deny C z, ob, cbo_n (Or.inl rfl), ob], e2, R2, by unfold fX12_lay_90; rw [R2.cb, ob, e3, ob], B3⟩
  unfold fX11_lay fX12_lay
  simp only [fX11_lay_18]
  by_cases k1 : x.1.1 = -1
  · have ip1 : ip = 1 := by
      rcases hip with z | z
      · exact z.1
      · exact absurd (fun i hi => by rw [(q1 k1).2 i (by omega)]; exact ⟨by show (-1000 : Int) ≤ 0; omega, by show (0 : Int) ≤ 1000; omega⟩) z.2
    by_cases ea : 0 ≤ a ∧ a < sn s
    · obtain ⟨h2, h3, r1, r2, R2, r3, r4⟩ := ref 2
      obtain ⟨pa, fp, sm, o⟩ := R2.obj
      refine ⟨0, hput h 1 (BO 2), h3, ?_, ?_, r4⟩
      · rw [co C.1, ob, c_isThing C, ob, if_pos ea, if_neg one0, gR 2 C.1 rfl, ob, co S.1, ob, eip, ob, ip1, if_neg one0, gR 2 C.1 rfl, ob, gI 0 S.1 rfl, ob, if_pos k1, r1]
      · have hF : FU = FU - 1 + 1 := by have := FU_ge; omega
        rw [r2, ob, R2.cb, ob, r_isThing R2, ob, if_pos ea, hF]
        simp only [fX12_lay_13, fX12_lay_68, fX12_lay_80]
        rw [if_neg (by omega), gI 8 o rfl, ob, if_pos k1, if_neg (by omega), ob, if_pos k1, if_neg (by omega), r3]
    · obtain ⟨h2, h3, r1, r2, R2, r3, r4⟩ := ref 1
      obtain ⟨pa, fp, sm, o⟩ := R2.obj
      refine ⟨0, hput h 1 (BO 1), h3, ?_, ?_, r4⟩
      · rw [co C.1, ob, c_isThing C, ob, if_neg ea, if_pos rfl, r1]
      · have hF : FU = FU - 1 + 1 := by have := FU_ge; omega
        rw [r2, ob, R2.cb, ob, r_isThing R2, ob, if_neg ea, hF]
        simp only [fX12_lay_13, fX12_lay_68, fX12_lay_80]
        rw [if_neg (by omega), gI 8 o rfl, ob, if_pos k1, if_pos trivial, if_pos trivial, r3]
  · obtain ⟨en, eE⟩ := q2 k1
    have hip' : (ip = 1 ∧ ∀ i, i < 4 → -1000 ≤ x.1.2.2 i ∧ x.1.2.2 i ≤ 1000) ∨ (ip = 0 ∧ ¬ ∀ i, i < 4 → -1000 ≤ x.1.2.2 i ∧ x.1.2.2 i ≤ 1000) := by
      rcases hip with ⟨z1, z2⟩ | ⟨z1, z2⟩
      · exact Or.inl ⟨z1, fun i hi => by have := z2 i hi; rw [eE i (by omega)] at this; exact this⟩
      · exact Or.inr ⟨z1, fun y => z2 (fun i hi => by rw [eE i (by omega)]; exact y i hi)⟩
    by_cases ea : (0 ≤ a ∧ a < sn s) ∧ ∀ i, i < 4 → -1000 ≤ x.1.2.2 i ∧ x.1.2.2 i ≤ 1000
    · have ip1 : ip = 1 := by
        rcases hip' with z | z
        · exact z.1
        · exact absurd ea.2 z.2
      obtain ⟨t, rfl⟩ := Int.eq_ofNat_of_zero_le ea.1.1
      obtain ⟨h1, e1, C1, F1⟩ := c_change C hn
      obtain ⟨h2, e2, C2, F2⟩ := c_lay47 C1 (t := t) (by omega) k1 ea.2
      obtain ⟨h3, h4, e3, R3, F3, e4, R4, F4⟩ := change2 G R (F1.tr F2)
      obtain ⟨h5, e5, R5, F5⟩ := r_lay102 R4 (t := t) (by omega) k1 ea.2
      obtain ⟨pa, fp, sm, o⟩ := R3.obj
      obtain ⟨g, e6, hg⟩ := r_lay13 R3 (t : Int) (g0 := 1) (Or.inr rfl) k1
      have g1 : g = 1 := by
        rcases hg with z | z
        · exact z.1
        · exact absurd ⟨rfl, ea.2⟩ z.2
      refine ⟨1, h2, h5, ?_, ?_, bo (show Good (setPl s t x.1.2.2) ((s :: hist).take 20) ((-1, 0, fun _ => 0), x.2) from ⟨setPl_good G.1 ea.2, take20_good G.1 G.2.1, Or.inl rfl, G.2.2.2⟩) C2 (F4.tr F5) R5⟩
      · rw [co C.1, ob, c_isThing C, ob, if_pos ea.1, if_neg one0, gR 2 C.1 rfl, ob, co S.1, ob, eip, ob, ip1, if_neg one0, gR 2 C.1 rfl, ob, gI 0 S.1 rfl, ob, if_neg k1, co C.1, ob, C.cr1, ob, e1, ob, e2]
      · rw [e3, ob, R3.cb, ob, r_isThing R3, ob, if_pos ea.1, e6, g1]
        simp only [fX12_lay_68]
        rw [if_neg (by omega), gI 8 o rfl, ob, if_neg k1, R3.cb, ob, e4, ob, e5]
    · obtain ⟨h2, h3, r1, r2, R2, r3, r4⟩ := ref 1
      refine ⟨0, hput h 1 (BO 1), h3, ?_, ?_, r4⟩
      · rw [co C.1, ob, c_isThing C, ob]
        by_cases eb : 0 ≤ a ∧ a < sn s
        · have ip0 : ip = 0 := by
            rcases hip' with z | z
            · exact absurd ⟨eb, z.2⟩ ea
            · exact z.1
          rw [if_pos eb, if_neg one0, gR 2 C.1 rfl, ob, co S.1, ob, eip, ob, ip0, if_pos rfl, r1]
        · rw [if_neg eb, if_pos rfl, r1]
      · rw [r2, ob, R2.cb, ob, r_isThing R2, ob]
        obtain ⟨g, e6, hg⟩ := r_lay13 R2 a (g0 := if 0 ≤ a ∧ a < sn s then 1 else 0) (by split; exact Or.inr rfl; exact Or.inl rfl) k1
        have g0 : g = 0 := by
          rcases hg with ⟨z1, z2, z3⟩ | z
          · exact absurd ⟨(by by_cases y : 0 ≤ a ∧ a < sn s; exact y; rw [if_neg y] at z2; omega), z3⟩ ea
          · exact z.1
        rw [e6, g0]
        simp only [fX12_lay_68, fX12_lay_80]
        rw [if_pos trivial, if_pos trivial, r3]
