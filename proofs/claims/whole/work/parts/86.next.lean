/-! names gone over one after the other -/
def isSuc (n k : Nat) (g g' : Nat → Int) : Prop := 1 ≤ k ∧ k < n ∧ g k < mx g k ∧ (∀ j, k < j → j < n → g j = mx g j) ∧ (∀ i, i < k → g' i = g i) ∧ g' k = g k + 1 ∧ ∀ i, k < i → i < n → g' i = 0
theorem lastwise {n k : Nat} {g x : Nat → Int} (hx : RGS n x) (hl : ∀ j, k < j → j < n → g j = mx g j) : ∀ m, m ≤ n → (∀ i, i ≤ k → i < n → x i = g i) → Eqn m x g ∨ ahead m x g := by
  intro m
  induction m with
  | zero => intro _ _; exact Or.inl (fun i hi => by omega)
  | succ m ih =>
    intro hm hk
    rcases ih (by omega) hk with z | ⟨i, hi, a, b⟩
    · by_cases y : m ≤ k
      · exact Or.inl (fun i hi => by
          by_cases w : i = m
          · rw [w]; exact hk m y (by omega)
          · exact z i (by omega))
      · have h1 := hl m (by omega) (by omega)
        have h2 := (hx m (by omega)).2
        rw [mx_congr z] at h2
        by_cases w : x m = g m
        · exact Or.inl (fun i hi => by
            by_cases v : i = m
            · rw [v]; exact w
            · exact z i (by omega))
        · exact Or.inr ⟨m, by omega, by omega, z⟩
    · exact Or.inr ⟨i, by omega, a, b⟩
theorem isSuc.ahead_iff {n k : Nat} {g g' x : Nat → Int} (h : isSuc n k g g') (hx : RGS n x) : ahead n x g' ↔ ahead n x g ∨ Eqn n x g := by
  obtain ⟨h0, h1, h2, h3, h4, h5, h6⟩ := h
  constructor
  · rintro ⟨i, hi, a, b⟩
    rcases Nat.lt_trichotomy i k with z | z | z
    · exact Or.inl ⟨i, hi, by rw [h4 i z] at a; exact a, fun j hj => by rw [b j hj, h4 j (by omega)]⟩
    · subst z
      rw [h5] at a
      by_cases y : x i < g i
      · exact Or.inl ⟨i, hi, y, fun j hj => by rw [b j hj, h4 j hj]⟩
      · have := lastwise hx h3 n (Nat.le_refl _) (fun j hj _ => by
          by_cases w : j = i
          · rw [w]; omega
          · rw [b j (by omega), h4 j (by omega)])
        exact this.symm
    · rw [h6 i z hi] at a
      have := (hx i hi).1; omega
  · rintro (⟨i, hi, a, b⟩ | z)
    · rcases Nat.lt_or_ge i k with y | y
      · exact ⟨i, hi, by rw [h4 i y]; exact a, fun j hj => by rw [b j hj, h4 j (by omega)]⟩
      · refine ⟨k, h1, ?_, fun j hj => by rw [b j (by omega), h4 j hj]⟩
        rw [h5]
        by_cases w : i = k
        · subst w; omega
        · rw [b k (by omega)]; omega
    · exact ⟨k, h1, by rw [h5, z k h1]; omega, fun j hj => by rw [z j (by omega), h4 j hj]⟩
theorem isSuc.rgs {n k : Nat} {g g' : Nat → Int} (h : isSuc n k g g') (hg : RGS n g) : RGS n g' := by
  obtain ⟨h0, h1, h2, h3, h4, h5, h6⟩ := h
  intro i hi
  rcases Nat.lt_trichotomy i k with z | z | z
  · rw [h4 i z, mx_congr (g := g') (g' := g) (fun j hj => h4 j (by omega))]; exact hg i hi
  · subst z
    rw [h5, mx_congr (g := g') (g' := g) (fun j hj => h4 j hj)]
    have := hg i hi; omega
  · rw [h6 i z hi]
    exact ⟨Int.le_refl _, mx_nonneg _ _⟩
def val : Nat → (Nat → Int) → Int
  | 0, _ => 0
  | i + 1, g => 13 * val i g + g i
theorem val_congr {n : Nat} {f g : Nat → Int} (e : Eqn n f g) : val n f = val n g := by
  induction n with
  | zero => rfl
  | succ n ih => simp only [val]; rw [ih (fun i hi => e i (by omega)), e n (by omega)]
theorem val_lt {n : Nat} {f g : Nat → Int} (hf : ∀ i, i < n → 0 ≤ f i ∧ f i ≤ 12) (hg : ∀ i, i < n → 0 ≤ g i ∧ g i ≤ 12) (h : ahead n f g) : val n f < val n g := by
  induction n with
  | zero => obtain ⟨i, hi, -⟩ := h; omega
  | succ n ih =>
    obtain ⟨i, hi, a, b⟩ := h
    have f1 := hf n (by omega); have g1 := hg n (by omega)
    simp only [val]
    by_cases z : i = n
    · subst z
      have := val_congr (n := i) b
      omega
    · have := ih (fun i hi => hf i (by omega)) (fun i hi => hg i (by omega)) ⟨i, by omega, a, b⟩
      omega
theorem val_bd {n : Nat} {f : Nat → Int} (hf : ∀ i, i < n → 0 ≤ f i ∧ f i ≤ 12) : 0 ≤ val n f ∧ val n f < 13 ^ n := by
  induction n with
  | zero => exact ⟨Int.le_refl _, by show (0 : Int) < 13 ^ 0; decide⟩
  | succ n ih =>
    have h1 := ih (fun i hi => hf i (by omega)); have h2 := hf n (by omega)
    simp only [val]
    rw [Int.pow_succ]
    omega
theorem mx_maxN {k : Nat} {g : Nat → Int} (hg : ∀ i, i < k → 0 ≤ g i) (hk : 1 ≤ k) : mx g k = maxN k g + 1 := by
  induction k with
  | zero => omega
  | succ k ih =>
    simp only [mx, maxN]
    have := hg k (by omega)
    by_cases k0 : k = 0
    · subst k0; show max 0 (g 0 + 1) = max 0 (g 0) + 1; omega
    · rw [ih (fun i hi => hg i (by omega)) (by omega)]; omega
section
variable {h : Hp} {s : Scn} {hist : List Scn} {x : Aux} {flt : Int}
theorem r_next (R : RI h s hist x flt) (hn1 : 1 ≤ sn s) (hn : sn s ≤ 12) {F : Nat → Int} (e : h.2 76 = some (arr 0 12 F)) (hr : RGS (sn s) F) :
    (∃ (h' : Hp) (F' : Nat → Int) (k : Nat), fX12_next 62 h = some (1, h') ∧ h'.2 76 = some (arr 0 12 F') ∧ isSuc (sn s) k F F' ∧ RI h' s hist x flt ∧ Fr (fun k => k = 76) h h') ∨ (fX12_next 62 h = some (0, h) ∧ ∀ j, 0 < j → j < sn s → F j = mx F j) := by
  obtain ⟨pa, fp, sm, o⟩ := R.obj
  have inn : ∀ (K7 : Nat → Int → Hp → Option (Int × Hp)) (k : Nat), k < sn s → fX12_next_15 K7 FU 62 k 0 0 h = fX12_next_37 K7 62 k (maxN k F) h := by
    intro K7 k hk
    refine lpmax (fun N i c => fX12_next_15 K7 N 62 k c i h) F k 0 12 _ (by omega) (Nat.zero_le _) (by omega) (fun i hi => by omega) (fun i hi => by have := hr.lt (i := i) (by omega); omega) ?_ ?_
    · intro N i c _ hi h2 h3
      rw [fX12_next_15, if_neg (by omega), gR 20 o rfl, ob, ald_of i e rfl (by omega), ob, c32_n (by omega) (by omega), ob]; rfl
    · intro N
      rw [fX12_next_15, if_pos (by omega)]
  have main : (∃ (h' : Hp) (F' : Nat → Int) (k : Nat), fX12_next_7 FU 62 ((sn s : Int) - 1 - ((0 : Nat) : Int)) h = some (1, h') ∧ h'.2 76 = some (arr 0 12 F') ∧ isSuc (sn s) k F F' ∧ RI h' s hist x flt ∧ Fr (fun k => k = 76) h h') ∨ (fX12_next_7 FU 62 ((sn s : Int) - 1 - ((0 : Nat) : Int)) h = some (0, h) ∧ ∀ j, 0 < j → j < sn s → F j = mx F j) := by
    refine lpe (fun N d (_ : Unit) => fX12_next_7 N 62 ((sn s : Int) - 1 - (d : Nat)) h) (fun d _ => ∀ j, sn s - 1 - d < j → j < sn s → F j = mx F j) (sn s - 1) (fun r => (∃ (h' : Hp) (F' : Nat → Int) (k : Nat), r = some (1, h') ∧ h'.2 76 = some (arr 0 12 F') ∧ isSuc (sn s) k F F' ∧ RI h' s hist x flt ∧ Fr (fun k => k = 76) h h') ∨ (r = some (0, h) ∧ ∀ j, 0 < j → j < sn s → F j = mx F j)) ?_ ?_ FU 0 () (by omega) (FU_lt (by omega)) (fun j h1 h2 => by omega)
    · intro N d _ hd hI
      obtain ⟨k, hk⟩ : ∃ k, sn s - 1 - d = k := ⟨_, rfl⟩
      have ek : (sn s : Int) - 1 - (d : Nat) = (k : Int) := by omega
      show ((∃ (h' : Hp) (F' : Nat → Int) (k : Nat), fX12_next_7 (N + 1) 62 ((sn s : Int) - 1 - (d : Nat)) h = some (1, h') ∧ h'.2 76 = some (arr 0 12 F') ∧ isSuc (sn s) k F F' ∧ RI h' s hist x flt ∧ Fr (fun k => k = 76) h h') ∨ (fX12_next_7 (N + 1) 62 ((sn s : Int) - 1 - (d : Nat)) h = some (0, h) ∧ ∀ j, 0 < j → j < sn s → F j = mx F j)) ∨ ∃ s' : Unit, _ ∧ fX12_next_7 (N + 1) 62 ((sn s : Int) - 1 - (d : Nat)) h = fX12_next_7 N 62 ((sn s : Int) - 1 - ((d + 1 : Nat) : Nat)) h
      rw [ek, fX12_next_7, if_neg (by omega)]
      have i1 := inn (fX12_next_7 N) k (by omega)
      rw [i1, fX12_next_37, gR 20 o rfl, ob, ald_of k e rfl (by omega), ob]
      have emx := mx_maxN (k := k) (g := F) (fun i hi => (hr i (by omega)).1) (by omega)
      have hb := hr k (by omega); have hb2 := hr.lt (i := k) (by omega)
      by_cases z : F k ≤ maxN k F
      · left; left
        rw [if_pos z, fX12_next_50, gR 20 o rfl, ob, ald_of k e rfl (by omega), ob, c32_n (by omega) (by omega), ob, ast_of k e rfl (by omega), ob, c32_n (by omega) (by omega), ob]
        have R1 := R.pu (q := 76) (by omega) (ups F k (F k + 1))
        have z2 : ∃ (h' : Hp) (F' : Nat → Int), fX12_next_64 FU 62 ((k + 1 : Nat) : Int) (hput h 76 (arr 0 12 (ups F k (F k + 1)))) = some (1, h') ∧ h'.2 76 = some (arr 0 12 F') ∧ (∀ i, i ≤ k → F' i = ups F k (F k + 1) i) ∧ (∀ i, k < i → i < sn s → F' i = 0) ∧ RI h' s hist x flt ∧ Fr (fun k => k = 76) h h' := by
          refine lp (fun N i (g : Hp) => fX12_next_64 N 62 i g) (fun i g => k + 1 ≤ i ∧ ∃ F', g.2 76 = some (arr 0 12 F') ∧ (∀ j, j ≤ k → F' j = ups F k (F k + 1) j) ∧ (∀ j, k < j → j < i → F' j = 0) ∧ RI g s hist x flt ∧ Fr (fun k => k = 76) h g) (sn s) (fun r => ∃ (h' : Hp) (F' : Nat → Int), r = some (1, h') ∧ h'.2 76 = some (arr 0 12 F') ∧ (∀ i, i ≤ k → F' i = ups F k (F k + 1) i) ∧ (∀ i, k < i → i < sn s → F' i = 0) ∧ RI h' s hist x flt ∧ Fr (fun k => k = 76) h h') ?_ ?_ FU (k + 1) _ (by omega) (FU_lt (by omega)) ⟨Nat.le_refl _, _, hput_eq, fun _ _ => rfl, fun j h1 h2 => by omega, R1, Fr.rf.put rfl⟩
          · intro N i g hi ⟨hik, F', a1, a2, a3, a4, a5⟩
            obtain ⟨pa', fp', sm', o'⟩ := a4.obj
            rw [fX12_next_64, a4.nb, if_neg (by show ¬ (sn s : Int) ≤ i; omega)]
            simp only []
            rw [gR 20 o' rfl, ob, ast_of i a1 rfl (by omega), ob, c32_n (by omega) (by omega), ob]
            refine ⟨_, ⟨by omega, _, hput_eq, fun j hj => ?_, fun j h1 h2 => ?_, a4.pu (by omega) _, a5.put rfl⟩, rfl⟩
            · rw [ups_at, if_neg (by omega)]; exact a2 j hj
            · rw [ups_at]
              by_cases w : j = i
              · rw [if_pos w]
              · rw [if_neg w]; exact a3 j h1 (by omega)
          · intro N g ⟨hik, F', a1, a2, a3, a4, a5⟩
            rw [fX12_next_64, a4.nb, if_pos (by show (sn s : Int) ≤ sn s; omega), fX12_next_85]
            exact ⟨g, F', rfl, a1, a2, a3, a4, a5⟩
        obtain ⟨h', F', e2, m2, q1, q2, R2, Fr2⟩ := z2
        have e2' : fX12_next_64 FU 62 ((k : Int) + 1) (hput h 76 (arr 0 12 (ups F k (F k + 1)))) = some (1, h') := e2
        rw [e2']
        refine ⟨h', F', k, rfl, m2, ⟨by omega, by omega, by omega, fun j h1 h2 => hI j (by omega) h2, fun i hi => ?_, ?_, q2⟩, R2, Fr2⟩
        · rw [q1 i (by omega), ups_at, if_neg (by omega)]
        · rw [q1 k (Nat.le_refl _), ups_at, if_pos rfl]
      · right
        rw [if_neg z, c32_n (by omega) (by omega), ob]
        refine ⟨(), fun j h1 h2 => ?_, ?_⟩
        · by_cases w : j = k
          · subst w; omega
          · exact hI j (by omega) h2
        · rw [show (k : Int) + -1 = (sn s : Int) - 1 - ((d + 1 : Nat) : Nat) by omega]
    · intro N _ hI
      right
      show fX12_next_7 (N + 1) 62 ((sn s : Int) - 1 - ((sn s - 1 : Nat) : Nat)) h = _ ∧ _
      rw [fX12_next_7, if_pos (by omega), fX12_next_93]
      exact ⟨rfl, fun j h1 h2 => hI j (by omega) h2⟩
  have eN : fX12_next 62 h = fX12_next_7 FU 62 ((sn s : Int) - 1 - ((0 : Nat) : Int)) h := by
    unfold fX12_next
    rw [R.nb]
    simp only []
    rw [c32_n (by omega) (by omega), ob, show (sn s : Int) - 1 - ((0 : Nat) : Int) = (sn s : Int) - 1 by omega]
  rw [eN]; exact main
end
theorem cst_nn {n : Nat} {W X K : Nat → Int} (hn : n ≤ 12) (hW : Wok W) (hX : Xok X K) (sX : Sym n X) (sK : Sym n K) {g : Int} (hg : 0 ≤ g ∧ g ≤ 3) {p : Nat → Int} (hp : RGS n p) : 0 ≤ cst n W X K g p := by
  by_cases g3 : g = 3
  · subst g3
    have e : cst n W X K 3 p = rqr n X K p := by
      rw [rqr_eq hn hX sX sK hp]
      unfold cst
      rw [if_pos rfl, cfold_s (by omega)]; rfl
    rw [e]
    refine sumN_nonneg (fun a ha => sumN_nonneg (fun b hb => ?_))
    have := hX (12 * a + b) (by omega)
    split <;> (try split) <;> omega
  · have hh : ∀ v : Nat, 0 ≤ hco n W X K g (pv p v) := by
      intro v
      unfold hco
      split
      · split
        · omega
        · have h1 := hsq_bd hn hW (pv p v); have h2 := hct_bd n (pv p v)
          exact Int.ediv_nonneg (by omega) (by omega)
      · split
        · split
          · omega
          · have := hmd_in n W (pv p v) n
            exact (hsum_bd hn hW (pv p v) (t := (hmd n W (pv p v) n).toNat) (by omega)).1
        · split
          · exact (hwd_bd hn hW (pv p v)).1
          · omega
    unfold cst
    rw [if_neg g3]
    by_cases g2 : g = 2
    · subst g2; rw [cfold_2]; exact maxN_nonneg _ _
    · rw [cfold_s g2, Int.zero_add]; exact sumN_nonneg (fun v _ => hh v)
