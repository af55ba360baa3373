/-! the reference's line -/
section
variable {h : Hp} {s : Scn} {hist : List Scn} {x : Aux} {flt : Int}
theorem r_lflat (R : RI h s hist x flt) (G : GSc s) (g k : Int) : ∃ (h' : Hp) (U : Nat → Int), fX12_line_40 FU 62 g k 0 h = fX12_line_105 62 g k h' ∧ h'.2 79 = some (arr 0 144 U) ∧ (∀ a b, a < sn s → b < sn s → U (12 * a + b) = fl (sP s) a b) ∧ RI h' s hist x flt ∧ Fr (fun l => l = 79) h h' := by
  have hn := G.2.1
  obtain ⟨r1, r2, r3, r4, r5, s1, s2, s3, s4, s5⟩ := R.scr
  refine lp (fun N a (z : Hp) => fX12_line_40 N 62 g k a z) (fun a z => ∃ U, z.2 79 = some (arr 0 144 U) ∧ (∀ u v, u < a → v < sn s → U (12 * u + v) = fl (sP s) u v) ∧ RI z s hist x flt ∧ Fr (fun l => l = 79) h z) (sn s) (fun r => ∃ (h' : Hp) (U : Nat → Int), r = fX12_line_105 62 g k h' ∧ h'.2 79 = some (arr 0 144 U) ∧ (∀ a b, a < sn s → b < sn s → U (12 * a + b) = fl (sP s) a b) ∧ RI h' s hist x flt ∧ Fr (fun l => l = 79) h h') ?_ ?_ FU 0 h (Nat.zero_le _) (FU_lt (by omega)) ⟨r4, s4, fun u v hu => by omega, R, Fr.rf⟩
  · intro N a z ha ⟨U, a1, a2, a3, a4⟩
    have In : ∃ (h' : Hp) (U : Nat → Int), fX12_line_51 (fX12_line_40 N) FU 62 g k a 0 z = fX12_line_99 (fX12_line_40 N) 62 g k a h' ∧ h'.2 79 = some (arr 0 144 U) ∧ (∀ u v, u < a + 1 → v < sn s → U (12 * u + v) = fl (sP s) u v) ∧ RI h' s hist x flt ∧ Fr (fun l => l = 79) h h' := by
      refine lp (fun N' b (z : Hp) => fX12_line_51 (fX12_line_40 N) N' 62 g k a b z) (fun b z => ∃ U, z.2 79 = some (arr 0 144 U) ∧ (∀ u v, u < a → v < sn s → U (12 * u + v) = fl (sP s) u v) ∧ (∀ v, v < b → U (12 * a + v) = fl (sP s) a v) ∧ RI z s hist x flt ∧ Fr (fun l => l = 79) h z) (sn s) (fun r => ∃ (h' : Hp) (U : Nat → Int), r = fX12_line_99 (fX12_line_40 N) 62 g k a h' ∧ h'.2 79 = some (arr 0 144 U) ∧ (∀ u v, u < a + 1 → v < sn s → U (12 * u + v) = fl (sP s) u v) ∧ RI h' s hist x flt ∧ Fr (fun l => l = 79) h h') ?_ ?_ FU 0 z (Nat.zero_le _) (FU_lt (by omega)) ⟨U, a1, a2, fun v hv => by omega, a3, a4⟩
      · intro N' b z hb ⟨U, b1, b2, b3, b4, b5⟩
        obtain ⟨pa, fp, sm, o⟩ := b4.obj
        obtain ⟨P, p1, p2⟩ := b4.plc
        have q1 := G.2.2.1 (4 * a) (by omega); have q2 := G.2.2.1 (4 * b) (by omega)
        have w1 := p2 (4 * a) (by omega); have w2 := p2 (4 * b) (by omega)
        rw [fX12_line_51, b4.nb, if_neg (by show ¬ (sn s : Int) ≤ b; omega)]
        simp only []
        rw [gR 23 o rfl, ob, gR 1 o rfl, ob, ald_of (4 * a) p1 (by omega) (by omega), ob, ob, ald_of (4 * b) p1 (by omega) (by omega), ob, c32_n (by omega) (by omega), ob, c32_n (by omega) (by omega), ob, ast_of (12 * a + b) b1 (by omega) (by omega), ob, c32_n (by omega) (by omega), ob]
        refine ⟨_, ⟨_, hput_eq, fun u v hu hv => ?_, fun v hv => ?_, b4.pu9 _, b5.put rfl⟩, rfl⟩
        · rw [ups_at, if_neg (by omega)]; exact b2 u v hu hv
        · rw [ups_at]
          by_cases e : v = b
          · subst e; rw [if_pos rfl, w1, w2]; rfl
          · rw [if_neg (by omega)]; exact b3 v (by omega)
      · intro N' z ⟨U, b1, b2, b3, b4, b5⟩
        rw [fX12_line_51, b4.nb, if_pos (by show (sn s : Int) ≤ sn s; omega)]
        refine ⟨z, U, rfl, b1, fun u v hu hv => ?_, b4, b5⟩
        by_cases e : u = a
        · subst e; exact b3 v hv
        · exact b2 u v (by omega) hv
    obtain ⟨z2, U2, e2, c1, c2, c3, c4⟩ := In
    refine ⟨z2, ⟨U2, c1, c2, c3, c4⟩, ?_⟩
    rw [fX12_line_40, a3.nb, if_neg (by show ¬ (sn s : Int) ≤ a; omega)]
    simp only []
    rw [e2, fX12_line_99, c32_n (by omega) (by omega), ob]; rfl
  · intro N z ⟨U, a1, a2, a3, a4⟩
    rw [fX12_line_40, a3.nb, if_pos (by show (sn s : Int) ≤ sn s; omega)]
    exact ⟨z, U, rfl, a1, a2, a3, a4⟩
theorem r_lsort (R : RI h s hist x flt) (G : GSc s) (g k : Int) : ∃ (r5 : Nat → Int), h.2 80 = some (arr 0 12 r5) ∧ fX12_line_105 62 g k h = fX12_line_186 62 g k (hput h 80 (arr 0 12 (srt (sP s) r5 (sn s)))) := by
  have hn := G.2.1
  obtain ⟨r1, r2, r3, r4, r5, s1, s2, s3, s4, s5⟩ := R.scr
  obtain ⟨pa, fp, sm, o⟩ := R.obj
  obtain ⟨P, p1, p2⟩ := R.plc
  have o' : ∀ F, (hput h 80 (arr 0 12 F)).2 62 = some (MO pa fp x.1.1 sm x.2.1.1 (x.2.2.2.1 : Int) flt) := fun F => (hput_ne (by omega)).trans o
  have p' : ∀ F, (hput h 80 (arr 0 12 F)).2 64 = some (arr 0 1008 P) := fun F => (hput_ne (by omega)).trans p1
  have inn : ∀ (Kk : Nat → Int → Int → Int → Hp → Option (Int × Hp)) (t : Nat), t < sn s → ∀ (a N : Nat) (F : Nat → Int), a ≤ t → a < N → (∀ j, j < a → 0 ≤ F j ∧ F j < 12) → fX12_line_118 Kk N 62 g k t a (hput h 80 (arr 0 12 F)) = Kk 62 g k ((t + 1 : Nat) : Int) (hput h 80 (arr 0 12 (insr (sP s) t a F))) := by
    intro Kk t ht a
    induction a with
    | zero =>
      intro N F _ hN _
      obtain ⟨N, rfl⟩ : ∃ k, N = k + 1 := ⟨N - 1, by omega⟩
      rw [fX12_line_118, if_pos (by omega), fX12_line_172, gR 24 (o' F) rfl, ob, ast_of (i := ((0 : Nat) : Int)) 0 hput_eq rfl (by omega), ob, hput_hput, c32_n (by omega) (by omega), ob]; rfl
    | succ a ih =>
      intro N F ha hN hF
      obtain ⟨N, rfl⟩ : ∃ k, N = k + 1 := ⟨N - 1, by omega⟩
      have fa := hF a (by omega)
      have w1 := p2 (4 * (F a).toNat) (by omega); have w2 := p2 (4 * t) (by omega)
      rw [fX12_line_118, if_neg (by omega), gR 1 (o' F) rfl, ob, gR 24 (o' F) rfl, ob, ald_of a hput_eq (by omega) (by omega), ob, ald_of (4 * (F a).toNat) (p' F) (by omega) (by omega), ob, ob, ald_of (4 * t) (p' F) (by omega) (by omega), ob, w1, w2]
      simp only [insr]
      by_cases z : sP s (4 * (F a).toNat) ≤ sP s (4 * t)
      · rw [if_pos z, if_pos z, fX12_line_172, gR 24 (o' F) rfl, ob, ast_of (a + 1) hput_eq rfl (by omega), ob, hput_hput, c32_n (by omega) (by omega), ob]; rfl
      · rw [if_neg z, if_neg z, ob, ob, ald_of a hput_eq (by omega) (by omega), ob, ast_of (a + 1) hput_eq rfl (by omega), ob, hput_hput, c32_n (by omega) (by omega), ob, show ((a + 1 : Nat) : Int) + -1 = (a : Int) by omega]
        exact ih N (ups F (a + 1) (F a)) (by omega) (by omega) (fun j hj => by rw [ups_at, if_neg (by omega)]; exact hF j (by omega))
  refine ⟨r5, s5, ?_⟩
  unfold fX12_line_105
  have z := lp (fun N i (F : Nat → Int) => fX12_line_107 N 62 g k i (hput h 80 (arr 0 12 F))) (fun i F => F = srt (sP s) r5 i) (sn s) (fun o => o = fX12_line_186 62 g k (hput h 80 (arr 0 12 (srt (sP s) r5 (sn s))))) ?_ ?_ FU 0 r5 (Nat.zero_le _) (FU_lt (by omega)) rfl
  · rw [show hput h 80 (arr 0 12 r5) = h from hput_self s5] at z; exact z
  · intro N i F hi hF
    refine ⟨srt (sP s) r5 (i + 1), rfl, ?_⟩
    have po := srt_po (P := sP s) (F := r5) i
    rw [fX12_line_107, R.nbA (hput_ne (by omega)) (hput_ne (by omega)), if_neg (by show ¬ (sn s : Int) ≤ i; omega)]
    simp only []
    rw [inn (fX12_line_107 N) i hi i FU F (Nat.le_refl _) (FU_lt (by omega)) (fun j hj => by rw [hF]; have := po.1 j hj; omega), hF]
    rfl
  · intro N F hF
    rw [fX12_line_107, R.nbA (hput_ne (by omega)) (hput_ne (by omega)), if_pos (by show (sn s : Int) ≤ sn s; omega), hF]
theorem r_isAhead (R : RI h s hist x flt) (hn : sn s ≤ 12) {f b : Nat → Int} (e1 : h.2 76 = some (arr 0 12 f)) (e2 : h.2 77 = some (arr 0 12 b)) : ∃ r, fX12_isAhead 62 76 77 h = some (r, h) ∧ ((r = 1 ∧ ahead (sn s) f b) ∨ (r = 0 ∧ ¬ ahead (sn s) f b)) := by
  unfold fX12_isAhead
  by_cases z : ∃ i, i < sn s ∧ f i ≠ b i
  · obtain ⟨i, ⟨hi, hd⟩, hm⟩ : ∃ i, (i < sn s ∧ f i ≠ b i) ∧ ∀ j, j < i → f j = b j := by
      have key : ∀ m, (∃ i, i < m ∧ i < sn s ∧ f i ≠ b i) → ∃ i, (i < sn s ∧ f i ≠ b i) ∧ ∀ j, j < i → f j = b j := by
        intro m
        induction m with
        | zero => rintro ⟨i, hi, _⟩; omega
        | succ m ih =>
          rintro ⟨i, hi, h1, h2⟩
          by_cases y : ∃ i, i < m ∧ i < sn s ∧ f i ≠ b i
          · exact ih y
          · refine ⟨i, ⟨h1, h2⟩, fun j hj => ?_⟩
            by_cases w : f j = b j
            · exact w
            · exact absurd ⟨j, by omega, by omega, w⟩ y
      obtain ⟨i, h1, h2⟩ := z
      exact key (sn s) ⟨i, h1, h1, h2⟩
    have run : fX12_isAhead_2 FU 62 76 77 ((0 : Nat) : Int) h = fX12_isAhead_19 76 77 i h := by
      refine lp (fun N j (_ : Unit) => fX12_isAhead_2 N 62 76 77 j h) (fun j _ => True) i (fun r => r = fX12_isAhead_19 76 77 i h) ?_ ?_ FU 0 () (Nat.zero_le _) (FU_lt (by omega)) trivial
      · intro N j _ hj _
        refine ⟨(), trivial, ?_⟩
        rw [fX12_isAhead_2, R.nb, if_neg (by show ¬ (sn s : Int) ≤ j; omega)]
        simp only []
        rw [ald_of j e1 rfl (by omega), ob, ald_of j e2 rfl (by omega), ob, if_pos (hm j hj), c32_n (by omega) (by omega), ob]; rfl
      · intro N _ _
        rw [fX12_isAhead_2, R.nb, if_neg (by show ¬ (sn s : Int) ≤ i; omega)]
        simp only []
        rw [ald_of i e1 rfl (by omega), ob, ald_of i e2 rfl (by omega), ob, if_neg hd]
    have run : fX12_isAhead_2 FU 62 76 77 0 h = fX12_isAhead_19 76 77 i h := run
    rw [run, fX12_isAhead_19, ald_of i e1 rfl (by omega), ob, ald_of i e2 rfl (by omega), ob]
    simp only [fX12_isAhead_33]
    by_cases w : b i ≤ f i
    · rw [if_pos w, cbo_n (Or.inl rfl), ob]
      refine ⟨0, rfl, Or.inr ⟨rfl, fun ⟨j, hj, h1, h2⟩ => ?_⟩⟩
      rcases Nat.lt_trichotomy i j with y | y | y
      · exact hd (h2 i y)
      · subst y; omega
      · have := hm j y; omega
    · rw [if_neg w, cbo_n (Or.inr rfl), ob]
      exact ⟨1, rfl, Or.inl ⟨rfl, i, hi, by omega, hm⟩⟩
  · have hm : ∀ j, j < sn s → f j = b j := fun j hj => by
      by_cases w : f j = b j
      · exact w
      · exact absurd ⟨j, hj, w⟩ z
    have run : fX12_isAhead_2 FU 62 76 77 ((0 : Nat) : Int) h = some (0, h) := by
      refine lp (fun N j (_ : Unit) => fX12_isAhead_2 N 62 76 77 j h) (fun j _ => True) (sn s) (fun r => r = some (0, h)) ?_ ?_ FU 0 () (Nat.zero_le _) (FU_lt (by omega)) trivial
      · intro N j _ hj _
        refine ⟨(), trivial, ?_⟩
        rw [fX12_isAhead_2, R.nb, if_neg (by show ¬ (sn s : Int) ≤ j; omega)]
        simp only []
        rw [ald_of j e1 rfl (by omega), ob, ald_of j e2 rfl (by omega), ob, if_pos (hm j hj), c32_n (by omega) (by omega), ob]; rfl
      · intro N _ _
        rw [fX12_isAhead_2, R.nb, if_pos (by show (sn s : Int) ≤ sn s; omega), fX12_isAhead_40]
    exact ⟨0, run, Or.inr ⟨rfl, fun ⟨j, hj, h1, _⟩ => by have := hm j hj; omega⟩⟩
end
