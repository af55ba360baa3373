def rnk (n : Nat) (f : Nat → Int) : Int := sumN n (fun k => f k * won (n - 1 - k) (mx f k).toNat)
theorem rnk_bd {n : Nat} {f : Nat → Int} (hn : n ≤ 12) (hr : RGS n f) {k : Nat} (hk : k < n) : 0 ≤ f k * won (n - 1 - k) (mx f k).toNat ∧ f k * won (n - 1 - k) (mx f k).toNat ≤ 680326948503552 := by
  have h1 := hr k hk; have h2 := hr.lt hk; have h3 := (hr.sub (m := k) (by omega)).mx_le; have h4 := mx_nonneg f k
  have h5 := won_b (t := n - 1 - k) (k := (mx f k).toNat) (by omega) (by omega)
  refine ⟨Int.mul_nonneg h1.1 (by omega), ?_⟩
  calc f k * won (n - 1 - k) (mx f k).toNat ≤ 12 * won (n - 1 - k) (mx f k).toNat := Int.mul_le_mul_of_nonneg_right (by omega) (by omega)
    _ ≤ 680326948503552 := by omega
section
variable {h : Hp} {s : Scn} {hist : List Scn} {x : Aux} {flt : Int}
theorem c_end (C : CI h s hist x flt) {m t : Nat} (hm : m + t < 13) {i : Int} (hi : i = ((13 * m + t : Nat) : Int)) : ald h 1 48 i = some (won t m) := by
  obtain ⟨r, r2, e0, e1, e2, q⟩ := C.nms
  rw [ald_of (13 * m + t) e1 hi (by omega), q m t hm]
theorem both_rank {h : Hp} (B : Both h) : ∃ r h1 h2, fX11_rank 1 h = some (r, h1) ∧ fX12_rank 62 h1 = some (r, h2) ∧ Both h2 := by
  obtain ⟨s, hist, x, flt, G, C, R⟩ := B
  have hn := G.1.2.1
  have hn1 := G.1.1
  have hr := G.1.rgs
  obtain ⟨h2, e2, R2, C1, F2, B2⟩ := read2 G C R
  obtain ⟨f, Pt, ef⟩ := C1.par
  obtain ⟨rr, rr2, e0, -⟩ := C1.nms
  refine ⟨rnk (sn s) (sf s), hput h 1 (BO 0), h2, ?_, ?_, B2⟩
  · have L : fX5_rankOf 47 7 (hput h 1 (BO 0)) = some (rnk (sn s) (sf s), hput h 1 (BO 0)) := by
      unfold fX5_rankOf
      refine lp (fun N i (z : Int × Int) => fX5_rankOf_8 N 47 7 z.1 z.2 i (hput h 1 (BO 0))) (fun i z => z.1 = sumN i (fun k => sf s k * won (sn s - 1 - k) (mx (sf s) k).toNat) ∧ z.2 = mx (sf s) i) (sn s) (fun r => r = some (rnk (sn s) (sf s), hput h 1 (BO 0))) ?_ ?_ FU 0 (0, 0) (Nat.zero_le _) (FU_lt (by omega)) ⟨rfl, rfl⟩
      · intro N i ⟨c, z⟩ hi ⟨h1, h3⟩
        have h1 : c = sumN i (fun k => sf s k * won (sn s - 1 - k) (mx (sf s) k).toNat) := h1
        have h3 : z = mx (sf s) i := h3
        have b1 := sumN_bd (n := i) (F := fun k => sf s k * won (sn s - 1 - k) (mx (sf s) k).toNat) (B := 680326948503552) (fun k hk => by have := rnk_bd hn hr (k := k) (by omega); exact ⟨by show -680326948503552 ≤ sf s k * won (sn s - 1 - k) (mx (sf s) k).toNat; omega, this.2⟩)
        have b2 := rnk_bd hn hr hi
        have b3 := hr i hi; have b4 := hr.lt hi; have b5 := (hr.sub (m := i) (by omega)).mx_le; have b6 := mx_nonneg (sf s) i
        refine ⟨(c + sf s i * won (sn s - 1 - i) (mx (sf s) i).toNat, max z (sf s i + 1)), ⟨by simp only [sumN]; rw [h1], by simp only [mx]; rw [h3]⟩, ?_⟩
        show fX5_rankOf_8 (N + 1) 47 7 c z i _ = _
        rw [fX5_rankOf_8, gI 0 Pt.1 rfl, ob, if_neg (by omega), gR 2 Pt.1 rfl, ob, ald_of i Pt.2.1 rfl (by omega), ob, ef i hi, gR 0 e0 rfl, ob, ob, c_end C1 (m := (mx (sf s) i).toNat) (t := sn s - 1 - i) (by omega) (by omega), ob, c64_n (by omega) (by omega), ob, c32_n (by omega) (by omega), ob, c32_n (by omega) (by omega), ob]
        rfl
      · intro N ⟨c, z⟩ ⟨h1, h3⟩
        show fX5_rankOf_8 (N + 1) 47 7 c z (sn s) _ = _
        rw [fX5_rankOf_8, gI 0 Pt.1 rfl, ob, if_pos (by omega), fX5_rankOf_70, show c = _ from h1]; rfl
    unfold fX11_rank
    rw [C.put1 0, ob, gR 10 C1.1 rfl, ob, gR 0 C1.1 rfl, ob, gR 5 C1.now rfl, ob, co e0, ob, L, ob]
  · obtain ⟨pa, fp, sm, o⟩ := R2.obj
    obtain ⟨N0, m0, q0⟩ := R2.nam
    unfold fX12_rank
    rw [e2, ob]
    refine lp (fun N i (z : Int × Int) => fX12_rank_12 N 62 z.1 z.2 i h2) (fun i z => 1 ≤ i ∧ z.1 = sumN i (fun k => sf s k * won (sn s - 1 - k) (mx (sf s) k).toNat) ∧ z.2 = mx (sf s) i) (sn s) (fun r => r = some (rnk (sn s) (sf s), h2)) ?_ ?_ FU 1 (0, 1) (by omega) (FU_lt (by omega)) ⟨Nat.le_refl _, ?_, ?_⟩
    · intro N i ⟨c, z⟩ hi ⟨h0, h1, h3⟩
      have h1 : c = sumN i (fun k => sf s k * won (sn s - 1 - k) (mx (sf s) k).toNat) := h1
      have h3 : z = mx (sf s) i := h3
      have b1 := sumN_bd (n := i) (F := fun k => sf s k * won (sn s - 1 - k) (mx (sf s) k).toNat) (B := 680326948503552) (fun k hk => by have := rnk_bd hn hr (k := k) (by omega); exact ⟨by show -680326948503552 ≤ sf s k * won (sn s - 1 - k) (mx (sf s) k).toNat; omega, this.2⟩)
      have b2 := rnk_bd hn hr hi
      have b3 := hr i hi; have b4 := hr.lt hi; have b5 := (hr.sub (m := i) (by omega)).mx_le; have b6 := mx_nonneg (sf s) i
      refine ⟨(c + sf s i * won (sn s - 1 - i) (mx (sf s) i).toNat, max z (sf s i + 1)), ⟨by omega, by simp only [sumN]; rw [h1], by simp only [mx]; rw [h3]⟩, ?_⟩
      show fX12_rank_12 (N + 1) 62 c z i _ = _
      have ew := waysOn_ok h2 20 (sn s - 1 - i) (mx (sf s) i).toNat (by omega) (by omega) (by omega)
      rw [show ((sn s - 1 - i : Nat) : Int) = (sn s : Int) - 1 - i by omega, show (((mx (sf s) i).toNat : Nat) : Int) = z by omega] at ew
      rw [fX12_rank_12, R2.nb, if_neg (by show ¬ (sn s : Int) ≤ i; omega)]
      show ((getR h2 11 62 5).bind _) = _
      rw [gR 5 o rfl, ob, ald_of i m0 rfl (by omega), ob, q0 i hi]
      show ((cob h2 11 62).bind fun _ => (fX12_n 62 h2).bind _) = _
      rw [R2.nb]
      simp only []
      rw [c32_n (by omega) (by omega), ob, ew, ob]
      simp only []
      rw [c64_n (by omega) (by omega), ob, gR 5 o rfl, ob, ald_of i m0 rfl (by omega), ob, q0 i hi, c32_n (by omega) (by omega), ob, c32_n (by omega) (by omega), ob]
      rfl
    · intro N ⟨c, z⟩ ⟨h0, h1, h3⟩
      show fX12_rank_12 (N + 1) 62 c z (sn s) _ = _
      rw [fX12_rank_12, R2.nb, if_pos (by show (sn s : Int) ≤ sn s; omega), fX12_rank_66, show c = _ from h1]; rfl
    · have := hr.zero (by omega)
      show (0 : Int) = 0 + sf s 0 * _
      rw [this]; omega
    · have := hr.zero (by omega)
      show (1 : Int) = max 0 (sf s 0 + 1)
      rw [this]; omega
end
/-- a name's next number: how often a step goes into what is left -/
def isDig (L st : Int) (k d : Nat) : Prop := d ≤ k ∧ (∀ j : Nat, j < d → st ≤ L - j * st) ∧ (d = k ∨ L - d * st < st)
theorem isDig.uq {L st : Int} {k d d' : Nat} (h : isDig L st k d) (h' : isDig L st k d') : d = d' := by
  obtain ⟨a1, a2, a3⟩ := h
  obtain ⟨b1, b2, b3⟩ := h'
  rcases Nat.lt_trichotomy d d' with z | z | z
  · have := b2 d z
    rcases a3 with y | y
    · omega
    · exact absurd this (by omega)
  · exact z
  · have := a2 d' z
    rcases b3 with y | y
    · omega
    · exact absurd this (by omega)
/-- g is the name of a rank, as far as i -/
def RU (n : Nat) (rank : Int) (g L : Nat → Int) (i : Nat) : Prop := L 0 = rank ∧ (∀ k, k < i → 0 ≤ L k ∧ L k ≤ rank) ∧ ∀ k, k < i → ∃ d : Nat, g k = d ∧ isDig (L k) (won (n - 1 - k) (mx g k).toNat) (mx g k).toNat d ∧ L (k + 1) = L k - d * won (n - 1 - k) (mx g k).toNat
theorem RU.rgs {n : Nat} {rank : Int} {g L : Nat → Int} {i : Nat} (h : RU n rank g L i) : RGS i g := by
  intro k hk
  obtain ⟨d, e1, e2, -⟩ := h.2.2 k hk
  have := mx_nonneg g k
  have := e2.1
  omega
theorem RU.uq {n : Nat} {rank : Int} {g L g' L' : Nat → Int} : ∀ {i : Nat}, RU n rank g L i → RU n rank g' L' i → (∀ k, k < i → g k = g' k) ∧ L i = L' i := by
  intro i
  induction i with
  | zero => intro h h'; exact ⟨fun k hk => by omega, h.1.trans h'.1.symm⟩
  | succ i ih =>
    intro h h'
    have s1 : RU n rank g L i := ⟨h.1, fun k hk => h.2.1 k (by omega), fun k hk => h.2.2 k (by omega)⟩
    have s2 : RU n rank g' L' i := ⟨h'.1, fun k hk => h'.2.1 k (by omega), fun k hk => h'.2.2 k (by omega)⟩
    obtain ⟨e1, e2⟩ := ih s1 s2
    obtain ⟨d, a1, a2, a3⟩ := h.2.2 i (by omega)
    obtain ⟨d', b1, b2, b3⟩ := h'.2.2 i (by omega)
    have em : mx g i = mx g' i := mx_congr e1
    rw [em, e2] at a2
    rw [em, e2] at a3
    have : d = d' := a2.uq b2
    subst this
    refine ⟨fun k hk => ?_, a3.trans b3.symm⟩
    by_cases z : k = i
    · subst z; rw [a1, b1]
    · exact e1 k (by omega)
