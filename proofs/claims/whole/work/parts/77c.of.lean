theorem r_of53 {h : Hp} {s : Scn} {hist : List Scn} {x : Aux} {flt : Int} (R : RI h s hist x flt) (hn1 : 1 ≤ sn s) (hn : sn s ≤ 12) {rank : Int} (hr : 0 ≤ rank ∧ rank ≤ 9223372036854775807) {N0 : Nat → Int} (m0 : h.2 68 = some (arr 0 252 N0)) : ∃ (g L N1 : Nat → Int), fX12_of_53 FU 62 rank 1 1 (hput h 68 (arr 0 252 (ups N0 0 0))) = some (1, hput h 68 (arr 0 252 N1)) ∧ RU (sn s) rank g L (sn s) ∧ Eqn (sn s) N1 g ∧ ∀ j, 12 ≤ j → N1 j = N0 j := by
  obtain ⟨pa, fp, sm, o⟩ := R.obj
  have o' : ∀ F, (hput h 68 (arr 0 252 F)).2 62 = _ := fun F => (hput_ne (by omega)).trans o
  have nb' : ∀ {β : Type} (F : Nat → Int) (k : Int × Hp → Option β), ((cob (hput h 68 (arr 0 252 F)) 11 62).bind fun _ => (fX12_n 62 (hput h 68 (arr 0 252 F))).bind k) = k ((sn s : Int), hput h 68 (arr 0 252 F)) := fun F k => R.nbA (hput_ne (by omega)) (hput_ne (by omega)) k
  have w1 : won (sn s - 1 - 0) 0 = won (sn s - 1 - 0) 0 := rfl
  have z := lp (fun N i (z : Int × (Nat → Int)) => fX12_of_53 N 62 z.1 (mx z.2 i) i (hput h 68 (arr 0 252 z.2))) (fun i z => 1 ≤ i ∧ (∃ L, RU (sn s) rank z.2 L i ∧ z.1 = L i ∧ 0 ≤ z.1 ∧ z.1 ≤ rank) ∧ ∀ j, 12 ≤ j → z.2 j = N0 j) (sn s) (fun r => ∃ (g L N1 : Nat → Int), r = some (1, hput h 68 (arr 0 252 N1)) ∧ RU (sn s) rank g L (sn s) ∧ Eqn (sn s) N1 g ∧ ∀ j, 12 ≤ j → N1 j = N0 j) ?_ ?_ FU 1 (rank, ups N0 0 0) hn1 (FU_lt (by omega)) ⟨Nat.le_refl _, ⟨fun _ => rank, ⟨rfl, fun k hk => ⟨hr.1, Int.le_refl _⟩, fun k hk => ?_⟩, rfl, hr.1, Int.le_refl _⟩, fun j hj => by show ups N0 0 0 j = N0 j; rw [ups_at, if_neg (by omega)]⟩
  · have em : mx (ups N0 0 0) 1 = 1 := by show max 0 (ups N0 0 0 0 + 1) = 1; rw [ups_at, if_pos rfl]; omega
    have z : ∃ (g L N1 : Nat → Int), fX12_of_53 FU 62 rank (mx (ups N0 0 0) 1) ((1 : Nat) : Int) (hput h 68 (arr 0 252 (ups N0 0 0))) = some (1, hput h 68 (arr 0 252 N1)) ∧ RU (sn s) rank g L (sn s) ∧ Eqn (sn s) N1 g ∧ ∀ j, 12 ≤ j → N1 j = N0 j := z
    rw [em] at z
    exact z
  · intro N i ⟨c, g⟩ hi ⟨hi0, ⟨L, h1, h2, h3, h4⟩, h5⟩
    have h1 : RU (sn s) rank g L i := h1
    have h2 : c = L i := h2
    have h3 : 0 ≤ c := h3
    have h4 : c ≤ rank := h4
    have h5 : ∀ j, 12 ≤ j → g j = N0 j := h5
    have b5 := h1.rgs.mx_le; have b6 := mx_nonneg g i
    have bw := won_b (t := sn s - 1 - i) (k := (mx g i).toNat) (by omega) (by omega)
    obtain ⟨d, e2, hd, hd1, hd2⟩ := r_dig (fX12_of_53 N) (hput h 68 (arr 0 252 g)) (L := c) (st := won (sn s - 1 - i) (mx g i).toNat) (k := (mx g i).toNat) (i := i) ⟨h3, by omega⟩ bw.1 (by omega)
    have ew := waysOn_ok (hput h 68 (arr 0 252 g)) 20 (sn s - 1 - i) (mx g i).toNat (by omega) (by omega) (by omega)
    rw [show ((sn s - 1 - i : Nat) : Int) = (sn s : Int) - 1 - i by omega, show (((mx g i).toNat : Nat) : Int) = mx g i by omega] at ew
    rw [show (((mx g i).toNat : Nat) : Int) = mx g i by omega] at e2
    rw [h2] at hd
    refine ⟨(c - d * won (sn s - 1 - i) (mx g i).toNat, ups g i d), ⟨by omega, ⟨_, h1.step (by omega) hd, ?_, hd1, ?_⟩, ?_⟩, ?_⟩
    · show c - _ = ups L (i + 1) _ (i + 1)
      rw [ups_at, if_pos rfl, h2]
    · show c - (d : Int) * won (sn s - 1 - i) (mx g i).toNat ≤ rank
      omega
    · intro j hj
      show ups g i d j = N0 j
      rw [ups_at, if_neg (by omega)]; exact h5 j hj
    · show fX12_of_53 (N + 1) 62 c (mx g i) i (hput h 68 (arr 0 252 g)) = fX12_of_53 N 62 (c - d * won (sn s - 1 - i) (mx g i).toNat) (mx (ups g i d) (i + 1)) ((i + 1 : Nat) : Int) (hput h 68 (arr 0 252 (ups g i d)))
      have hdk := hd.1
      rw [fX12_of_53, nb', if_neg (by show ¬ (sn s : Int) ≤ i; omega)]
      simp only []
      rw [nb']
      simp only []
      rw [c32_n (by omega) (by omega), ob, ew, ob]
      simp only []
      rw [e2, fX12_of_106, gR 5 (o' g) rfl, ob, ast_of i hput_eq rfl (by omega), ob, c32_n (by omega) (by omega), ob, c32_n (by omega) (by omega), ob, hput_hput]
      have em : mx (ups g i d) (i + 1) = max (mx g i) ((d : Int) + 1) := by
        simp only [mx]
        rw [mx_congr (g := ups g i d) (g' := g) (fun j hj => by rw [ups_at, if_neg (by omega)]), ups_at, if_pos rfl]
      rw [em]; rfl
  · intro N ⟨c, g⟩ ⟨hi0, ⟨L, h1, h2, h3, h4⟩, h5⟩
    have h1 : RU (sn s) rank g L (sn s) := h1
    show ∃ (g' L N1 : Nat → Int), fX12_of_53 (N + 1) 62 c (mx g (sn s)) (sn s) (hput h 68 (arr 0 252 g)) = _ ∧ _
    rw [fX12_of_53, nb', if_pos (by show (sn s : Int) ≤ sn s; omega), fX12_of_132]
    exact ⟨g, L, g, rfl, h1, fun _ _ => rfl, h5⟩
  · have k0 : k = 0 := by omega
    subst k0
    refine ⟨0, by simp [ups_at], ⟨by omega, fun j hj => by omega, Or.inl rfl⟩, by simp⟩
