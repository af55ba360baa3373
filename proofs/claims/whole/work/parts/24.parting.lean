/-- only these cells have changed -/
def Fr (S : Nat → Prop) (h h' : Hp) : Prop := h'.1 = h.1 ∧ ∀ k, ¬ S k → h'.2 k = h.2 k
theorem Fr.rf {S : Nat → Prop} {h : Hp} : Fr S h h := ⟨rfl, fun _ _ => rfl⟩
theorem Fr.tr {S : Nat → Prop} {h h' h'' : Hp} (a : Fr S h h') (b : Fr S h' h'') : Fr S h h'' := ⟨b.1.trans a.1, fun k hk => (b.2 k hk).trans (a.2 k hk)⟩
theorem Fr.mono {S T : Nat → Prop} {h h' : Hp} (a : Fr S h h') (hs : ∀ k, S k → T k) : Fr T h h' := ⟨a.1, fun k hk => a.2 k (fun z => hk (hs k z))⟩
theorem Fr.put {S : Nat → Prop} {h h' : Hp} {q : Nat} {c : AC} (a : Fr S h h') (hq : S q) : Fr S h (hput h' q c) := ⟨a.1, fun k hk => (hput_ne (fun e => hk (by rw [e]; exact hq))).trans (a.2 k hk)⟩
def pts (q k : Nat) : Prop := k = q ∨ k = q + 1 ∨ k = q + 2
theorem isPt.fr {S : Nat → Prop} {h h' : Hp} {q : Nat} {n k : Int} {f : Nat → Int} (a : Fr S h h') (p : isPt h q n k f) (hs : ∀ j, pts q j → ¬ S j) : isPt h' q n k f := by
  obtain ⟨p0, p1, g, p2⟩ := p
  exact ⟨(a.2 _ (hs _ (Or.inl rfl))).trans p0, (a.2 _ (hs _ (Or.inr (Or.inl rfl)))).trans p1, g, (a.2 _ (hs _ (Or.inr (Or.inr rfl)))).trans p2⟩
set_option maxHeartbeats 2000000 in
theorem renumber_ok {h : Hp} {q n : Nat} {k : Int} {f : Nat → Int} (hn : n ≤ 12) (P : isPt h q n k f) (hf : ∀ i, i < n → 0 ≤ f i ∧ f i < 13) : ∃ h' g, fX6_renumber q h = some h' ∧ isPt h' q n (mx g n) g ∧ RN n f g ∧ Fr (pts q) h h' := by
  obtain ⟨p0, p1, gg, p2⟩ := P
  unfold fX6_renumber
  rw [gR 3 p0 rfl, ob]
  obtain ⟨G, e1, hG⟩ := fillI (-1) (by omega) p2
  rw [e1, ob, pV (fs' := [vi n, vi 0, vr (q + 1), vr (q + 2)]) 1 (hput_ne (by omega) |>.trans p0) (by simp) rfl, ob]
  refine lp (fun N i (hh : Hp) => fX6_renumber_15 N q i hh) (fun i hh => ∃ g fr, hh.2 q = some (obj 5 [vi n, vi (mx g i), vr (q + 1), vr (q + 2)]) ∧ hh.2 (q + 1) = some (arr 0 12 g) ∧ hh.2 (q + 2) = some (arr 0 13 fr) ∧ Fr (pts q) h hh ∧ RN i f g ∧ (∀ j, i ≤ j → g j = f j) ∧ ∀ v : Nat, v < 13 → (fr v = -1 ∧ ∀ j, j < i → f j ≠ v) ∨ ∃ j, j < i ∧ f j = v ∧ fr v = g j) n (fun o => ∃ h' g, o = some h' ∧ isPt h' q n (mx g n) g ∧ RN n f g ∧ Fr (pts q) h h') ?_ ?_ FU 0 _ (Nat.zero_le _) (FU_lt (by omega)) ?_
  · intro N i hh hi ⟨g, fr, a0, a1, a2, a3, a4, a5, a6⟩
    have hgi := hf i hi
    have egi := a5 i (Nat.le_refl _)
    have hfm : mx g i ≤ i := a4.1.mx_le
    have hfp := mx_nonneg g i
    simp only [fX6_renumber_15]
    rw [gI 0 a0 rfl, ob, if_neg (by omega), gR 2 a0 rfl, ob, ald_of i a1 rfl (by omega), ob, if_neg (by omega), gR 3 a0 rfl, ob, aln_of a2, ob, if_pos (by omega), ob, ald_of (g i).toNat a2 (by omega) (by omega), ob]
    have hv := a6 (g i).toNat (by omega)
    by_cases hfr : fr (g i).toNat = -1
    · rw [if_pos hfr, ob, gI 1 a0 rfl, ob, ast_of (g i).toNat a2 (by omega) (by omega), ob, gI 1 (hput_ne (by omega) |>.trans a0) rfl, ob, c32_n (by omega) (by omega), ob, pV (fs' := [vi n, vi (mx g i + 1), vr (q + 1), vr (q + 2)]) 1 (hput_ne (by omega) |>.trans a0) (by simp) rfl, ob]
      have b0 : (hput (hput hh (q + 2) (arr 0 13 (ups fr (g i).toNat (mx g i)))) q (obj 5 [vi n, vi (mx g i + 1), vr (q + 1), vr (q + 2)])).2 q = some (obj 5 [vi n, vi (mx g i + 1), vr (q + 1), vr (q + 2)]) := hput_eq
      have b1 : (hput (hput hh (q + 2) (arr 0 13 (ups fr (g i).toNat (mx g i)))) q (obj 5 [vi n, vi (mx g i + 1), vr (q + 1), vr (q + 2)])).2 (q + 1) = some (arr 0 12 g) := (hput_ne (by omega)).trans ((hput_ne (by omega)).trans a1)
      have b2 : (hput (hput hh (q + 2) (arr 0 13 (ups fr (g i).toNat (mx g i)))) q (obj 5 [vi n, vi (mx g i + 1), vr (q + 1), vr (q + 2)])).2 (q + 2) = some (arr 0 13 (ups fr (g i).toNat (mx g i))) := (hput_ne (by omega)).trans hput_eq
      have b3 : Fr (pts q) h (hput (hput hh (q + 2) (arr 0 13 (ups fr (g i).toNat (mx g i)))) q (obj 5 [vi n, vi (mx g i + 1), vr (q + 1), vr (q + 2)])) := (a3.put (Or.inr (Or.inr rfl))).put (Or.inl rfl)
      generalize hput (hput hh (q + 2) (arr 0 13 (ups fr (g i).toNat (mx g i)))) q (obj 5 [vi n, vi (mx g i + 1), vr (q + 1), vr (q + 2)]) = H1 at b0 b1 b2 b3 ⊢
      simp only [fX6_renumber_76, fX6_renumber_88]
      rw [gR 2 b0 rfl, ob, gR 3 b0 rfl, ob, ald_of (g i).toNat b2 (by omega) (by omega), ob, ast_of i b1 rfl (by omega), ob, c32_n (by omega) (by omega), ob]
      have hnew : ∀ j, j < i → f j ≠ f i := by
        intro j hj z
        rcases hv with ⟨-, h1⟩ | ⟨l, hl, -, h2⟩
        · exact h1 j hj (by omega)
        · have := (a4.1 l hl).1; omega
      have eold : ∀ j, j < i → ups g i (ups fr (g i).toNat (mx g i) (g i).toNat) j = g j := fun j hj => by simp [ups_at]; omega
      have enew : ups g i (ups fr (g i).toNat (mx g i) (g i).toNat) i = mx g i := by simp [ups_at]
      have emx : mx (ups g i (ups fr (g i).toNat (mx g i) (g i).toNat)) i = mx g i := mx_congr eold
      refine ⟨_, ⟨ups g i (ups fr (g i).toNat (mx g i) (g i).toNat), ups fr (g i).toNat (mx g i), ?_, hput_eq, (hput_ne (by omega)).trans b2, b3.put (Or.inr (Or.inl rfl)), ?_, ?_, ?_⟩, rfl⟩
      · rw [hput_ne (by omega), b0]; simp only [mx]; rw [emx, enew]; congr 5; omega
      · refine RN.step ⟨RGS.congr a4.1 (fun j hj => (eold j hj).symm), fun x y hx hy => ?_⟩ (Or.inr ⟨hnew, ?_⟩)
        · rw [eold x hx, eold y hy]; exact a4.2 x y hx hy
        · rw [enew, emx]
      · intro j hj; rw [ups_at, if_neg (by omega)]; exact a5 j (by omega)
      · intro v hv2
        by_cases ev : v = (g i).toNat
        · subst ev
          exact Or.inr ⟨i, by omega, by omega, by rw [enew]; simp [ups_at]⟩
        · rcases a6 v hv2 with ⟨z1, z2⟩ | ⟨j, hj, z1, z2⟩
          · refine Or.inl ⟨by simp [ups_at, ev, z1], fun j hj => ?_⟩
            by_cases ej : j = i
            · subst ej; omega
            · exact z2 j (by omega)
          · exact Or.inr ⟨j, by omega, z1, by rw [eold j hj]; simp [ups_at, ev, z2]⟩
    · rw [if_neg hfr]
      simp only [fX6_renumber_76, fX6_renumber_88]
      rw [gR 2 a0 rfl, ob, gR 3 a0 rfl, ob, ald_of (g i).toNat a2 (by omega) (by omega), ob, ast_of i a1 rfl (by omega), ob, c32_n (by omega) (by omega), ob]
      obtain ⟨l, hl, e2, e3⟩ : ∃ l, l < i ∧ f l = (g i).toNat ∧ fr (g i).toNat = g l := by
        rcases hv with ⟨z, -⟩ | z
        · exact absurd z hfr
        · exact z
      have eold : ∀ j, j < i → ups g i (fr (g i).toNat) j = g j := fun j hj => by simp [ups_at]; omega
      have enew : ups g i (fr (g i).toNat) i = g l := by simp [ups_at, e3]
      have emx : mx (ups g i (fr (g i).toNat)) i = mx g i := mx_congr eold
      have hlm := lt_mx (g := g) hl
      refine ⟨_, ⟨ups g i (fr (g i).toNat), fr, ?_, hput_eq, (hput_ne (by omega)).trans a2, a3.put (Or.inr (Or.inl rfl)), ?_, ?_, ?_⟩, rfl⟩
      · rw [hput_ne (by omega), a0]; simp only [mx]; rw [emx, enew]; congr 5; omega
      · refine RN.step ⟨RGS.congr a4.1 (fun j hj => (eold j hj).symm), fun x y hx hy => ?_⟩ (Or.inl ⟨l, hl, by omega, ?_⟩)
        · rw [eold x hx, eold y hy]; exact a4.2 x y hx hy
        · rw [enew, eold l hl]
      · intro j hj; rw [ups_at, if_neg (by omega)]; exact a5 j (by omega)
      · intro v hv2
        rcases a6 v hv2 with ⟨z1, z2⟩ | ⟨j, hj, z1, z2⟩
        · refine Or.inl ⟨z1, fun j hj => ?_⟩
          by_cases ej : j = i
          · subst ej
            intro z
            exact z2 l hl (by omega)
          · exact z2 j (by omega)
        · exact Or.inr ⟨j, by omega, z1, by rw [eold j hj, z2]⟩
  · intro N hh ⟨g, fr, a0, a1, a2, a3, a4, a5, a6⟩
    simp only [fX6_renumber_15, fX6_renumber_94]
    rw [gI 0 a0 rfl, ob, if_pos (by omega)]
    exact ⟨hh, g, rfl, ⟨a0, a1, fr, a2⟩, a4, a3⟩
  · refine ⟨f, G, hput_eq, (hput_ne (by omega)).trans ((hput_ne (by omega)).trans p1), (hput_ne (by omega)).trans hput_eq, (Fr.rf.put (Or.inr (Or.inr rfl))).put (Or.inl rfl), ⟨fun i hi => by omega, fun i j hi => by omega⟩, fun _ _ => rfl, fun v hv => Or.inl ⟨hG v hv, fun j hj => by omega⟩⟩
