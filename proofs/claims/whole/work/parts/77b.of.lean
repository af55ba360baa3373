theorem c_unrank {h : Hp} {s : Scn} {hist : List Scn} {x : Aux} {flt : Int} (C : CI h s hist x flt) (hn : sn s ≤ 12) {rank : Int} (hr : 0 ≤ rank ∧ rank ≤ 9223372036854775807) : ∃ (h' : Hp) (g L : Nat → Int), fX5_unrank 47 rank 7 h = some h' ∧ RU (sn s) rank g L (sn s) ∧ isPt h' 7 (sn s) (mx g (sn s)) g ∧ Fr (fun k => 7 ≤ k ∧ k ≤ 9) h h' := by
  obtain ⟨f, P, ef⟩ := C.par
  obtain ⟨rr, rr2, e0, e1, -⟩ := C.nms
  have P' : ∀ F, isPt (hput h 8 (arr 0 12 F)) 7 (sn s) (mx f (sn s)) F := fun F => P.row F
  have e0' : ∀ F, (hput h 8 (arr 0 12 F)).2 47 = some (obj 4 [vr 48, vr 49]) := fun F => (hput_ne (by omega)).trans e0
  have e1' : ∀ F, (hput h 8 (arr 0 12 F)).2 48 = h.2 48 := fun F => hput_ne (by omega)
  unfold fX5_unrank
  have z := lp (fun N i (z : Int × (Nat → Int)) => fX5_unrank_9 N 47 7 z.1 (mx z.2 i) i (hput h 8 (arr 0 12 z.2))) (fun i z => ∃ L, RU (sn s) rank z.2 L i ∧ z.1 = L i ∧ 0 ≤ z.1 ∧ z.1 ≤ rank) (sn s) (fun r => ∃ (h' : Hp) (g L : Nat → Int), r = some h' ∧ RU (sn s) rank g L (sn s) ∧ isPt h' 7 (sn s) (mx g (sn s)) g ∧ Fr (fun k => 7 ≤ k ∧ k ≤ 9) h h') ?_ ?_ FU 0 (rank, f) (Nat.zero_le _) (FU_lt (by omega)) ⟨fun _ => rank, ⟨rfl, fun k hk => by omega, fun k hk => by omega⟩, rfl, hr.1, Int.le_refl _⟩
  · rw [show hput h 8 (arr 0 12 f) = h from hput_self P.2.1] at z; exact z
  · intro N i ⟨c, g⟩ hi ⟨L, h1, h2, h3, h4⟩
    have h1 : RU (sn s) rank g L i := h1
    have h2 : c = L i := h2
    have h3 : 0 ≤ c := h3
    have h4 : c ≤ rank := h4
    have b5 := h1.rgs.mx_le; have b6 := mx_nonneg g i
    have bw := won_b (t := sn s - 1 - i) (k := (mx g i).toNat) (by omega) (by omega)
    obtain ⟨d, e2, hd, hd1, hd2⟩ := c_dig (fX5_unrank_9 N) (hput h 8 (arr 0 12 g)) (L := c) (st := won (sn s - 1 - i) (mx g i).toNat) (k := (mx g i).toNat) (i := i) ⟨h3, by omega⟩ bw.1 (by omega)
    rw [show (((mx g i).toNat : Nat) : Int) = mx g i by omega] at e2
    rw [h2] at hd
    refine ⟨(c - d * won (sn s - 1 - i) (mx g i).toNat, ups g i d), ⟨_, h1.step (by omega) hd, ?_, hd1, ?_⟩, ?_⟩
    · show c - _ = ups L (i + 1) _ (i + 1)
      rw [ups_at, if_pos rfl, h2]
    · show c - (d : Int) * won (sn s - 1 - i) (mx g i).toNat ≤ rank
      omega
    · show fX5_unrank_9 (N + 1) 47 7 c (mx g i) i (hput h 8 (arr 0 12 g)) = fX5_unrank_9 N 47 7 (c - d * won (sn s - 1 - i) (mx g i).toNat) (mx (ups g i d) (i + 1)) ((i + 1 : Nat) : Int) (hput h 8 (arr 0 12 (ups g i d)))
      have hdk := hd.1
      have ea : ald (hput h 8 (arr 0 12 g)) 1 48 ((((mx g i * 13) + (sn s : Int)) - 1) - i) = some (won (sn s - 1 - i) (mx g i).toNat) := by
        have := c_end C (m := (mx g i).toNat) (t := sn s - 1 - i) (by omega) (i := (((mx g i * 13) + (sn s : Int)) - 1) - i) (by omega)
        unfold ald at this ⊢
        rw [e1']; exact this
      rw [fX5_unrank_9, gI 0 (P' g).1 rfl, ob, if_neg (by omega), gR 0 (e0' g) rfl, ob, ob, ea, ob, e2, fX5_unrank_71, gR 2 (P' g).1 rfl, ob, ast_of i (P' g).2.1 rfl (by omega), ob, c32_n (by omega) (by omega), ob, c32_n (by omega) (by omega), ob, hput_hput]
      have em : mx (ups g i d) (i + 1) = max (mx g i) ((d : Int) + 1) := by
        simp only [mx]
        rw [mx_congr (g := ups g i d) (g' := g) (fun j hj => by rw [ups_at, if_neg (by omega)]), ups_at, if_pos rfl]
      rw [em]; rfl
  · intro N ⟨c, g⟩ ⟨L, h1, h2, h3, h4⟩
    have h1 : RU (sn s) rank g L (sn s) := h1
    show ∃ (h' : Hp) (g' L : Nat → Int), fX5_unrank_9 (N + 1) 47 7 c (mx g (sn s)) (sn s) (hput h 8 (arr 0 12 g)) = some h' ∧ _
    rw [fX5_unrank_9, gI 0 (P' g).1 rfl, ob, if_pos (by omega), fX5_unrank_97, pV (fs' := [vi (sn s), vi (mx g (sn s)), vr 8, vr 9]) 1 (P' g).1 (by simp) rfl, ob]
    obtain ⟨p0, p1, gg, p2⟩ := P' g
    exact ⟨_, g, L, rfl, h1, ⟨hput_eq, (hput_ne (by omega)).trans p1, gg, (hput_ne (by omega)).trans p2⟩, (Fr.rf.put (q := 8) (by omega)).put (q := 7) (by omega)⟩
