section
variable {h : Hp} {s : Scn} {hist : List Scn} {x : Aux} {flt : Int}
theorem inj_arr {a b : AC} {kd m : Nat} {F G : Nat → Int} (e1 : some a = some (arr kd m F)) (e2 : some a = some (arr kd m G)) : F = G := by
  rw [e1] at e2; injection e2 with e2; injection e2 with e2
  simp only [Prod.mk.injEq] at e2; exact e2.2.2
/-- heaps numbered by their least things, in row 76 -/
theorem r_number (R : RI h s hist x flt) (hn : sn s ≤ 12) {f : Nat → Int} (e : h.2 76 = some (arr 0 12 f)) : ∃ h' g F, fX12_number 62 76 h = some (mx g (sn s), h') ∧ h'.2 76 = some (arr 0 12 F) ∧ Eqn (sn s) F g ∧ RN (sn s) f g ∧ RI h' s hist x flt ∧ Fr (fun k => k = 76 ∨ k = 78) h h' := by
  have L2 : ∀ (h0 : Hp) (g : Nat → Int) (c : Int), RI h0 s hist x flt → h0.2 76 = some (arr 0 12 f) → h0.2 78 = some (arr 0 12 g) → c = mx g (sn s) → RN (sn s) f g → Fr (fun k => k = 76 ∨ k = 78) h h0 → ∃ h' g F, fX12_number_83 62 76 c h0 = some (mx g (sn s), h') ∧ h'.2 76 = some (arr 0 12 F) ∧ Eqn (sn s) F g ∧ RN (sn s) f g ∧ RI h' s hist x flt ∧ Fr (fun k => k = 76 ∨ k = 78) h h' := by
    intro h0 g c R0 e0 e1 hc hg F0
    unfold fX12_number_83
    refine lp (fun N i (s' : Hp) => fX12_number_85 N 62 76 c i s') (fun i s' => ∃ F, s'.2 76 = some (arr 0 12 F) ∧ Eqn i F g ∧ RI s' s hist x flt ∧ s'.2 78 = some (arr 0 12 g) ∧ Fr (fun k => k = 76 ∨ k = 78) h s') (sn s) (fun o => ∃ h' g F, o = some (mx g (sn s), h') ∧ h'.2 76 = some (arr 0 12 F) ∧ Eqn (sn s) F g ∧ RN (sn s) f g ∧ RI h' s hist x flt ∧ Fr (fun k => k = 76 ∨ k = 78) h h') ?_ ?_ FU 0 h0 (Nat.zero_le _) (FU_lt (by omega)) ⟨f, e0, fun j hj => by omega, R0, e1, F0⟩
    · intro N i s' hi ⟨F, a1, a2, a3, a4, a5⟩
      obtain ⟨pa, fp, sm, o⟩ := a3.obj
      simp only [fX12_number_85]
      rw [a3.nb, if_neg (by show ¬ (sn s : Int) ≤ i; omega), gR 22 o rfl, ob, ald_of i a4 rfl (by omega), ob, ast_of i a1 rfl (by omega), ob, c32_n (by omega) (by omega), ob]
      refine ⟨_, ⟨_, hput_eq, fun j hj => ?_, a3.pu (by omega) _, (hput_ne (by omega)).trans a4, a5.put (Or.inl rfl)⟩, rfl⟩
      rw [ups_at]
      by_cases z : j = i
      · subst z; simp
      · rw [if_neg z]; exact a2 j (by omega)
    · intro N s' ⟨F, a1, a2, a3, a4, a5⟩
      simp only [fX12_number_85, fX12_number_108]
      rw [a3.nb, if_pos (by show (sn s : Int) ≤ sn s; omega), hc]
      exact ⟨s', g, F, rfl, a1, a2, hg, a3, a5⟩
  obtain ⟨r1, r2, r3, r4, r5, s1, s2, s3, s4, s5⟩ := R.scr
  unfold fX12_number
  refine lp (fun N i (s' : Int × Hp) => fX12_number_4 N 62 76 s'.1 i s'.2) (fun i s' => ∃ g, s'.2.2 76 = some (arr 0 12 f) ∧ s'.2.2 78 = some (arr 0 12 g) ∧ s'.1 = mx g i ∧ RN i f g ∧ RI s'.2 s hist x flt ∧ Fr (fun k => k = 76 ∨ k = 78) h s'.2) (sn s) (fun o => ∃ h' g F, o = some (mx g (sn s), h') ∧ h'.2 76 = some (arr 0 12 F) ∧ Eqn (sn s) F g ∧ RN (sn s) f g ∧ RI h' s hist x flt ∧ Fr (fun k => k = 76 ∨ k = 78) h h') ?_ ?_ FU 0 (0, h) (Nat.zero_le _) (FU_lt (by omega)) ⟨r3, e, s3, rfl, ⟨fun i hi => by omega, fun i j hi => by omega⟩, R, Fr.rf⟩
  · intro N i ⟨c, s'⟩ hi ⟨g, a1, a2, a3, a4, a5, a6⟩
    have a1 : s'.2 76 = some (arr 0 12 f) := a1
    have a2 : s'.2 78 = some (arr 0 12 g) := a2
    have a3 : c = mx g i := a3
    have a5 : RI s' s hist x flt := a5
    have a6 : Fr (fun k => k = 76 ∨ k = 78) h s' := a6
    obtain ⟨pa, fp, sm, o⟩ := a5.obj
    have hm := a4.1.mx_le; have hm0 := mx_nonneg g i
    simp only [fX12_number_4]
    rw [a5.nb, if_neg (by show ¬ (sn s : Int) ≤ i; omega), c32_n (by omega) (by omega), ob]
    -- the first one that is like it
    have L1 : ∃ fst : Nat, fst ≤ i ∧ f fst = f i ∧ (∀ j, j < fst → f j ≠ f i) ∧ fX12_number_20 (fX12_number_4 N) FU 62 76 c i i ((i : Int) - 1) s' = fX12_number_45 (fX12_number_4 N) 62 76 c i fst s' := by
      rw [show (i : Int) - 1 = (i : Int) - 1 - ((0 : Nat) : Int) by omega]
      refine lp (fun N0 j (z : Nat) => fX12_number_20 (fX12_number_4 N) N0 62 76 c i z ((i : Int) - 1 - j) s') (fun j z => z ≤ i ∧ f z = f i ∧ i - j ≤ z ∧ ∀ l, i - j ≤ l → l < z → f l ≠ f i) i (fun o => ∃ fst : Nat, fst ≤ i ∧ f fst = f i ∧ (∀ j, j < fst → f j ≠ f i) ∧ o = fX12_number_45 (fX12_number_4 N) 62 76 c i fst s') ?_ ?_ FU 0 i (Nat.zero_le _) (FU_lt (by omega)) ⟨Nat.le_refl _, rfl, by omega, fun l h1 h2 => by omega⟩
      · intro N0 j z hj ⟨b1, b2, b3, b4⟩
        simp only [fX12_number_20, fX12_number_39]
        rw [if_neg (by omega), ald_of (i - 1 - j) a1 (by omega) (by omega), ob, ald_of i a1 rfl (by omega), ob]
        by_cases ez : f (i - 1 - j) = f i
        · rw [if_pos ez, c32_n (by omega) (by omega), ob]
          refine ⟨i - 1 - j, ⟨by omega, ez, by omega, fun l h1 h2 => by omega⟩, ?_⟩
          have e1 : (i : Int) - 1 - j = ((i - 1 - j : Nat) : Int) := by omega
          have e2 : (i : Int) - 1 - j + -1 = (i : Int) - 1 - ((j + 1 : Nat) : Int) := by omega
          rw [e2, e1]
        · rw [if_neg ez, c32_n (by omega) (by omega), ob]
          refine ⟨z, ⟨b1, b2, by omega, fun l h1 h2 => ?_⟩, ?_⟩
          · by_cases el : l = i - 1 - j
            · subst el; exact ez
            · exact b4 l (by omega) h2
          · have e2 : (i : Int) - 1 - j + -1 = (i : Int) - 1 - ((j + 1 : Nat) : Int) := by omega
            rw [e2]
      · intro N0 z ⟨b1, b2, b3, b4⟩
        simp only [fX12_number_20]
        rw [if_pos (by omega)]
        exact ⟨z, b1, b2, fun j hj => b4 j (by omega) hj, rfl⟩
    obtain ⟨fst, b1, b2, b3, b4⟩ := L1
    rw [b4]
    simp only [fX12_number_45, fX12_number_67, fX12_number_77]
    by_cases ef : fst = i
    · subst ef
      rw [gR 22 o rfl, ob, if_pos rfl, ast_of fst a2 rfl (by omega), ob, if_pos rfl, c32_n (by omega) (by omega), ob, c32_n (by omega) (by omega), ob]
      have eold : ∀ j, j < fst → ups g fst c j = g j := fun j hj => by simp [ups_at]; omega
      have enew : ups g fst c fst = mx g fst := by simp [ups_at, a3]
      have emx : mx (ups g fst c) fst = mx g fst := mx_congr eold
      refine ⟨(c + 1, hput s' 78 (arr 0 12 (ups g fst c))), ⟨ups g fst c, (hput_ne (by omega)).trans a1, hput_eq, ?_, ?_, a5.pu (by omega) _, a6.put (Or.inr rfl)⟩, rfl⟩
      · simp only [mx]; rw [emx, enew, a3]; omega
      · refine RN.step ⟨RGS.congr a4.1 (fun j hj => (eold j hj).symm), fun y z hy hz => ?_⟩ (Or.inr ⟨b3, ?_⟩)
        · rw [eold y hy, eold z hz]; exact a4.2 y z hy hz
        · rw [enew, emx]
    · have hlt : fst < i := by omega
      rw [gR 22 o rfl, ob, if_neg (by omega), ob, ald_of fst a2 rfl (by omega), ob, ast_of i a2 rfl (by omega), ob, if_neg (by omega), c32_n (by omega) (by omega), ob]
      have eold : ∀ j, j < i → ups g i (g fst) j = g j := fun j hj => by simp [ups_at]; omega
      have enew : ups g i (g fst) i = g fst := by simp [ups_at]
      have emx : mx (ups g i (g fst)) i = mx g i := mx_congr eold
      have hl := lt_mx (g := g) hlt
      refine ⟨(c, hput s' 78 (arr 0 12 (ups g i (g fst)))), ⟨ups g i (g fst), (hput_ne (by omega)).trans a1, hput_eq, ?_, ?_, a5.pu (by omega) _, a6.put (Or.inr rfl)⟩, rfl⟩
      · simp only [mx]; rw [emx, enew, a3]; omega
      · refine RN.step ⟨RGS.congr a4.1 (fun j hj => (eold j hj).symm), fun y z hy hz => ?_⟩ (Or.inl ⟨fst, hlt, b2, ?_⟩)
        · rw [eold y hy, eold z hz]; exact a4.2 y z hy hz
        · rw [enew, eold fst hlt]
  · intro N ⟨c, s'⟩ ⟨g, a1, a2, a3, a4, a5, a6⟩
    have a5 : RI s' s hist x flt := a5
    simp only [fX12_number_4]
    rw [a5.nb, if_pos (by show (sn s : Int) ≤ sn s; omega)]
    exact L2 s' g c a5 a1 a2 a3 a4 a6
theorem r_takeNow (R : RI h s hist x flt) (hn : sn s ≤ 12) : ∃ h' F, fX12_takeNow 62 h = some h' ∧ h'.2 76 = some (arr 0 12 F) ∧ Eqn (sn s) F (sf s) ∧ RI h' s hist x flt ∧ Fr (fun k => k = 76) h h' := by
  obtain ⟨r1, r2, r3, r4, r5, s1, s2, s3, s4, s5⟩ := R.scr
  unfold fX12_takeNow
  refine lp (fun N i (s' : Hp) => fX12_takeNow_2 N 62 i s') (fun i s' => ∃ F, s'.2 76 = some (arr 0 12 F) ∧ Eqn i F (sf s) ∧ RI s' s hist x flt ∧ Fr (fun k => k = 76) h s') (sn s) (fun o => ∃ h' F, o = some h' ∧ h'.2 76 = some (arr 0 12 F) ∧ Eqn (sn s) F (sf s) ∧ RI h' s hist x flt ∧ Fr (fun k => k = 76) h h') ?_ ?_ FU 0 h (Nat.zero_le _) (FU_lt (by omega)) ⟨r1, s1, fun j hj => by omega, R, Fr.rf⟩
  · intro N i s' hi ⟨F, a1, a2, a3, a5⟩
    obtain ⟨pa, fp, sm, o⟩ := a3.obj
    obtain ⟨Nm, m, q⟩ := a3.nam
    simp only [fX12_takeNow_2]
    rw [a3.nb, if_neg (by show ¬ (sn s : Int) ≤ i; omega), gR 20 o rfl, ob, gR 5 o rfl, ob, ald_of i m rfl (by omega), ob, ast_of i a1 rfl (by omega), ob, c32_n (by omega) (by omega), ob]
    refine ⟨_, ⟨_, hput_eq, fun j hj => ?_, a3.pu (by omega) _, a5.put rfl⟩, rfl⟩
    rw [ups_at]
    by_cases z : j = i
    · subst z; simp [q j hi]
    · rw [if_neg z]; exact a2 j (by omega)
  · intro N s' ⟨F, a1, a2, a3, a5⟩
    simp only [fX12_takeNow_2, fX12_takeNow_28]
    rw [a3.nb, if_pos (by show (sn s : Int) ≤ sn s; omega)]
    exact ⟨s', F, rfl, a1, a2, a3, a5⟩
theorem RI.nbA {β : Type} (R : RI h s hist x flt) {g : Hp} (e1 : g.2 62 = h.2 62) (e2 : g.2 63 = h.2 63) (k : Int × Hp → Option β) : ((cob g 11 62).bind fun _ => (fX12_n 62 g).bind k) = k ((sn s : Int), g) := by
  obtain ⟨⟨pa, fp, sm, Z, P, W, X, K, N, a1, ⟨m0, -⟩, ⟨z0, -⟩, -⟩, -⟩ := R
  unfold fX12_n
  rw [co (e1.trans a1), ob, gR 0 (e1.trans a1) rfl, ob, ald_of (i := 0) 0 (e2.trans m0) rfl (by omega), ob, z0, ob]
/-- a row becomes the parting -/
theorem r_become (R : RI h s hist x flt) (hn : sn s ≤ 12) (hh : ∀ y ∈ hist, sn y ≤ 12) {q : Nat} {f g : Nat → Int} (hq : q = 76 ∨ q = 77) (e : h.2 q = some (arr 0 12 f)) (hg : Eqn (sn s) f g) : ∃ h', fX12_become 62 q h = some h' ∧ RI h' (setf s g) hist x flt ∧ Fr (fun k => k = 68) h h' := by
  obtain ⟨N0, m0, -⟩ := R.nam
  have key : ∃ h' N1, fX12_become 62 q h = some h' ∧ h' = hput h 68 (arr 0 252 N1) ∧ Eqn (sn s) N1 g ∧ ∀ j, 12 ≤ j → N1 j = N0 j := by
    unfold fX12_become
    have z := lp (fun N i (F : Nat → Int) => fX12_become_2 N 62 q i (hput h 68 (arr 0 252 F))) (fun i F => Eqn i F g ∧ ∀ j, i ≤ j → F j = N0 j) (sn s) (fun o => ∃ h' N1, o = some h' ∧ h' = hput h 68 (arr 0 252 N1) ∧ Eqn (sn s) N1 g ∧ ∀ j, 12 ≤ j → N1 j = N0 j) ?_ ?_ FU 0 N0 (Nat.zero_le _) (FU_lt (by omega)) ⟨fun j hj => by omega, fun _ _ => rfl⟩
    · rw [hput_self m0] at z; exact z
    · intro N i F hi ⟨a1, a2⟩
      obtain ⟨pa, fp, sm, o⟩ := R.obj
      simp only [fX12_become_2]
      rw [R.nbA (hput_ne (by omega)) (hput_ne (by omega)), if_neg (by show ¬ (sn s : Int) ≤ i; omega), gR 5 ((hput_ne (by omega)).trans o) rfl, ob, ald_of i ((hput_ne (by omega)).trans e) rfl (by omega), ob, ast_of i hput_eq rfl (by omega), ob, hput_hput, c32_n (by omega) (by omega), ob]
      refine ⟨ups F i (f i), ⟨fun j hj => ?_, fun j hj => ?_⟩, rfl⟩
      · rw [ups_at]
        by_cases z : j = i
        · subst z; simp [hg j hi]
        · rw [if_neg z]; exact a1 j (by omega)
      · rw [ups_at, if_neg (by omega)]; exact a2 j (by omega)
    · intro N F ⟨a1, a2⟩
      simp only [fX12_become_2, fX12_become_25]
      rw [R.nbA (hput_ne (by omega)) (hput_ne (by omega)), if_pos (by show (sn s : Int) ≤ sn s; omega)]
      exact ⟨_, F, rfl, rfl, a1, fun j hj => a2 j (by omega)⟩
  obtain ⟨h', N1, e1, e2, e3, e4⟩ := key
  subst e2
  exact ⟨_, e1, R.nm m0 e4 e3 hh, Fr.rf.put rfl⟩
end
