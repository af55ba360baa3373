theorem sumN_lt {n b : Nat} (hb : b ≤ n) (F : Nat → Int) : sumN n (fun a => if a < b then F a else 0) = sumN b F := by
  induction n with
  | zero => have : b = 0 := by omega
            subst this; rfl
  | succ n ih =>
    by_cases e : b = n + 1
    · subst e; exact sumN_congr (fun i hi => by rw [if_pos hi])
    · simp only [sumN]; rw [ih (by omega), if_neg (by omega)]; omega
theorem sumN_tri {n : Nat} (F : Nat → Nat → Int) : sumN n (fun a => sumN n (fun b => if a < b then F a b else 0)) = sumN n (fun b => sumN b (fun a => F a b)) := by
  rw [sumN_comm]
  exact sumN_congr (fun b hb => sumN_lt (by omega) (fun a => F a b))
theorem gap1_sym (P : Nat → Int) (a b i : Nat) : gap1 P a b i = gap1 P b a i := by unfold gap1; omega
theorem gapM_sym (P : Nat → Int) (a b kd : Nat) (i : Nat) : gapM P a b kd i = gapM P b a kd i := by
  induction i with
  | zero => rfl
  | succ i ih => simp only [gapM]; rw [ih, gap1_sym]
theorem gapM_congr {P P' : Nat → Int} (e : Eqn 48 P P') {a b kd : Nat} (ha : a < 12) (hb : b < 12) {i : Nat} (hi : i ≤ 4) : gapM P a b kd i = gapM P' a b kd i := by
  induction i with
  | zero => rfl
  | succ i ih =>
    simp only [gapM]; rw [ih (by omega)]
    have : gap1 P a b i = gap1 P' a b i := by unfold gap1; rw [e _ (by omega), e _ (by omega)]
    rw [this]
def ovr (P : Nat → Int) (kd a b : Nat) : Int := if gapM P a b kd 4 ≤ 10000 then 0 else 1
theorem ovr_01 (P : Nat → Int) (kd a b : Nat) : 0 ≤ ovr P kd a b ∧ ovr P kd a b ≤ 1 := by unfold ovr; split <;> omega
def nway (P : Nat → Int) (kd a b : Nat) : Int := min (gapM P a b kd 4) 10000
theorem nway_sym (P : Nat → Int) (kd a b : Nat) : nway P kd a b = nway P kd b a := by unfold nway; rw [gapM_sym]
/-- ways told anew where c holds -/
def Wnew (P W0 : Nat → Int) (kd : Nat) (c : Nat → Nat → Prop) [DecidableRel c] (W : Nat → Int) : Prop := ∀ u v, u < 12 → v < 12 → W (12 * u + v) = if c u v then nway P kd u v else W0 (12 * u + v)
theorem Wnew.step {P W0 W : Nat → Int} {kd : Nat} {c c' : Nat → Nat → Prop} [DecidableRel c] [DecidableRel c'] (h : Wnew P W0 kd c W) {a b : Nat} (hc : ∀ u v, u < 12 → v < 12 → (c' u v ↔ (c u v ∨ (u = a ∧ v = b) ∨ (u = b ∧ v = a)))) (ha : a < 12) (hb : b < 12) : Wnew P W0 kd c' (ups (ups W (12 * a + b) (nway P kd a b)) (12 * b + a) (nway P kd a b)) := by
  intro u v hu hv
  rw [ups_at, ups_at, h u v hu hv]
  have := hc u v hu hv
  by_cases e1 : 12 * u + v = 12 * b + a
  · have h1 : u = b := by omega
    have h2 : v = a := by omega
    subst h1; subst h2
    rw [if_pos rfl, if_pos (this.mpr (Or.inr (Or.inr ⟨rfl, rfl⟩))), nway_sym]
  · rw [if_neg e1]
    by_cases e2 : 12 * u + v = 12 * a + b
    · have h1 : u = a := by omega
      have h2 : v = b := by omega
      subst h1; subst h2
      rw [if_pos rfl, if_pos (this.mpr (Or.inr (Or.inl ⟨rfl, rfl⟩)))]
    · rw [if_neg e2]
      have : c' u v ↔ c u v := by
        rw [this]
        constructor
        · rintro (z | ⟨z1, z2⟩ | ⟨z1, z2⟩)
          · exact z
          · omega
          · omega
        · exact Or.inl
      by_cases e3 : c u v
      · rw [if_pos e3, if_pos (this.mpr e3)]
      · rw [if_neg e3, if_neg (fun z => e3 (this.mp z))]
theorem isSq.W {h : Hp} {q : Nat} {n m : Int} {P W X K : Nat → Int} {k : Int} {f : Nat → Int} (S : isSq h q n m P W X K k f) (W' : Nat → Int) : isSq (hput h (q + 2) (arr 0 144 W')) q n m P W' X K k f := by
  obtain ⟨s0, s1, s2, s3, s4, s5⟩ := S
  exact ⟨(hput_ne (by omega)).trans s0, (hput_ne (by omega)).trans s1, hput_eq, (hput_ne (by omega)).trans s3, (hput_ne (by omega)).trans s4, s5.ag (fun l h1 h2 => hput_ne (by omega))⟩
theorem c_meas {h : Hp} {n kd : Nat} {P W X K f : Nat → Int} {k flt : Int} (o : h.2 1 = some (BO flt)) (S : isSc h 2 n P W X K k f) (hn1 : 1 ≤ n) (hn : n ≤ 12) (hk : kd < 3) (hP : ∀ i, i < 48 → -1000 ≤ P i ∧ P i ≤ 1000) :
    ∃ W', fX11_measure_23 FU 1 kd 0 1 h = some (sumN n (fun a => sumN a (fun b => ovr P kd a b)), hput h 4 (arr 0 144 W')) ∧ Wnew P W kd (fun u v => u ≠ v ∧ u < n ∧ v < n) W' := by
  have inn : ∀ (Kk : Nat → Int → Int → Int → Hp → Option (Int × Hp)) (a : Nat), a < n → ∀ (c : Int) (W1 : Nat → Int), 0 ≤ c → c ≤ 1000 → Wnew P W kd (fun u v => u ≠ v ∧ u < a ∧ v < a) W1 → ∃ W2, fX11_measure_37 Kk FU 1 kd c a 0 (hput h 4 (arr 0 144 W1)) = Kk 1 kd (c + sumN a (fun b => ovr P kd a b)) ((a + 1 : Nat) : Int) (hput h 4 (arr 0 144 W2)) ∧ Wnew P W kd (fun u v => u ≠ v ∧ u < a + 1 ∧ v < a + 1) W2 := by
    intro Kk a ha c W1 hc0 hc1 hW
    refine lp (fun N b (s : Int × (Nat → Int)) => fX11_measure_37 Kk N 1 kd s.1 a b (hput h 4 (arr 0 144 s.2))) (fun b s => s.1 = c + sumN b (fun b => ovr P kd a b) ∧ Wnew P W kd (fun u v => (u ≠ v ∧ u < a ∧ v < a) ∨ (u = a ∧ v < b) ∨ (v = a ∧ u < b)) s.2) a (fun r => ∃ W2, r = Kk 1 kd (c + sumN a (fun b => ovr P kd a b)) ((a + 1 : Nat) : Int) (hput h 4 (arr 0 144 W2)) ∧ Wnew P W kd (fun u v => u ≠ v ∧ u < a + 1 ∧ v < a + 1) W2) ?_ ?_ FU 0 (c, W1) (Nat.zero_le _) (FU_lt (by omega)) ⟨by simp [sumN], fun u v hu hv => ?_⟩
    · intro N b ⟨c', W'⟩ hb ⟨h1, h2⟩
      have h1 : c' = c + sumN b (fun b => ovr P kd a b) := h1
      have h2 : Wnew P W kd (fun u v => (u ≠ v ∧ u < a ∧ v < a) ∨ (u = a ∧ v < b) ∨ (v = a ∧ u < b)) W' := h2
      have hs := sumN_01 (n := b) (F := fun b => ovr P kd a b) (fun j _ => ovr_01 _ _ _ _)
      have S' := S.W W'
      have g := gapOf_ok S' hP (a := a) (b := b) (kd := kd) (by omega) (by omega) hk
      have o' : (hput h 4 (arr 0 144 W')).2 1 = some (BO flt) := (hput_ne (by omega)).trans o
      refine ⟨(c' + ovr P kd a b, _), ⟨by simp only [sumN]; omega, h2.step (a := a) (b := b) (fun u v hu hv => by omega) (by omega) (by omega)⟩, ?_⟩
      simp only [fX11_measure_37, fX11_measure_70]
      rw [if_neg (by omega), gR 0 o' rfl, ob, co S'.1, ob, g, ob]
      have go := gapM_le hP (a := a) (b := b) (kd := kd) (by omega) (by omega) 4 (by omega)
      by_cases e : gapM P a b kd 4 ≤ 10000
      · rw [if_pos e, c32_n (by omega) (by omega), ob, gR 0 o' rfl, ob, co S'.1, ob, setWay_ok S' (by omega) (by omega), ob, c32_n (by omega) (by omega), ob, hput_hput]
        simp only [ovr, nway, if_pos e]; rfl
      · rw [if_neg e, c32_n (by omega) (by omega), ob, gR 0 o' rfl, ob, co S'.1, ob, setWay_ok S' (by omega) (by omega), ob, c32_n (by omega) (by omega), ob, hput_hput]
        simp only [ovr, nway, if_neg e]; rfl
    · intro N ⟨c', W'⟩ ⟨h1, h2⟩
      have h1 : c' = c + sumN a (fun b => ovr P kd a b) := h1
      simp only [fX11_measure_37, fX11_measure_96]
      rw [if_pos (by omega), c32_n (by omega) (by omega), ob, h1]
      refine ⟨W', rfl, fun u v hu hv => (h2 u v hu hv).trans ?_⟩
      by_cases z : u ≠ v ∧ u < a + 1 ∧ v < a + 1
      · rw [if_pos z, if_pos (by omega)]
      · rw [if_neg z, if_neg (by omega)]
    · refine (hW u v hu hv).trans ?_
      by_cases z : u ≠ v ∧ u < a ∧ v < a
      · rw [if_pos z, if_pos (by omega)]
      · rw [if_neg z, if_neg (by omega)]
  have z := lp (fun N a (s : Int × (Nat → Int)) => fX11_measure_23 N 1 kd s.1 a (hput h 4 (arr 0 144 s.2))) (fun a s => s.1 = sumN a (fun a => sumN a (fun b => ovr P kd a b)) ∧ Wnew P W kd (fun u v => u ≠ v ∧ u < a ∧ v < a) s.2) n (fun r => ∃ W', r = some (sumN n (fun a => sumN a (fun b => ovr P kd a b)), hput h 4 (arr 0 144 W')) ∧ Wnew P W kd (fun u v => u ≠ v ∧ u < n ∧ v < n) W') ?_ ?_ FU 1 (0, W) hn1 (FU_lt (by omega)) ⟨by simp [sumN], fun u v hu hv => by rw [if_neg (by omega)]⟩
  · rw [show hput h 4 (arr 0 144 W) = h from hput_self S.2.2.1] at z; exact z
  · intro N a ⟨c, W1⟩ ha ⟨h1, h2⟩
    have h1 : c = sumN a (fun a => sumN a (fun b => ovr P kd a b)) := h1
    have h2 : Wnew P W kd (fun u v => u ≠ v ∧ u < a ∧ v < a) W1 := h2
    have hb : 0 ≤ c ∧ c ≤ a * 12 := by
      rw [h1]
      refine ⟨sumN_nonneg (fun j _ => (sumN_01 (fun l _ => ovr_01 _ _ _ _)).1), sumN_le (fun j hj => ?_)⟩
      have := (sumN_01 (n := j) (F := fun b => ovr P kd j b) (fun l _ => ovr_01 _ _ _ _)).2
      omega
    obtain ⟨W2, e2, n2⟩ := inn (fX11_measure_23 N) a ha c W1 (by omega) (by omega) h2
    refine ⟨(c + sumN a (fun b => ovr P kd a b), W2), ⟨by simp only [sumN]; omega, n2⟩, ?_⟩
    simp only [fX11_measure_23]
    rw [gR 0 ((hput_ne (by omega)).trans o) rfl, ob, gI 0 (S.W W1).1 rfl, ob, if_neg (by omega)]
    exact e2
  · intro N ⟨c, W1⟩ ⟨h1, h2⟩
    simp only [fX11_measure_23, fX11_measure_102]
    rw [gR 0 ((hput_ne (by omega)).trans o) rfl, ob, gI 0 (S.W W1).1 rfl, ob, if_pos (by omega)]
    exact ⟨W1, by rw [show c = sumN n (fun a => sumN a (fun b => ovr P kd a b)) from h1], h2⟩
