abbrev SO (L g a b : Int) : AC := obj 7 [vr 24, vr 25, vr 26, vl L, vi g, vi a, vi b]
def mk (p : Nat → Int) (v : Int) (t : Nat) : Nat := msk (fun i => decide (p i = v)) t
theorem mk_lt {p : Nat → Int} {v : Int} {t : Nat} : mk p v t < 2 ^ t := msk_lt _ _
theorem mk_bit {p : Nat → Int} {v : Int} {t : Nat} (i : Nat) : (mk p v t).testBit i = pvt p v t i := by
  unfold mk pvt; rw [msk_bit]; by_cases h1 : i < t <;> by_cases h2 : p i = v <;> simp [h1, h2]
theorem mk_s {p : Nat → Int} {t : Nat} {v : Nat} : mk (ups p t v) v (t + 1) = mk p v t ||| 2 ^ t := by
  have e : msk (fun i => decide (ups p t v i = (v : Int))) t = msk (fun i => decide (p i = (v : Int))) t := by
    have : ∀ m, m ≤ t → msk (fun i => decide (ups p t v i = (v : Int))) m = msk (fun i => decide (p i = (v : Int))) m := by
      intro m
      induction m with
      | zero => intro _; rfl
      | succ m ih =>
        intro hm
        have eu : ups p t v m = p m := by rw [ups_at, if_neg (by omega)]
        simp only [msk, eu]; rw [ih (by omega)]
    exact this t (Nat.le_refl _)
  unfold mk
  show (if decide (ups p t v t = (v : Int)) = true then _ else _) = _
  rw [if_pos (by simp [ups_at]), e]
theorem mk_o {p : Nat → Int} {t : Nat} {v u : Nat} (h : u ≠ v) : mk (ups p t v) u (t + 1) = mk p u t := by
  have : ∀ m, m ≤ t → msk (fun i => decide (ups p t v i = (u : Int))) m = msk (fun i => decide (p i = (u : Int))) m := by
    intro m
    induction m with
    | zero => intro _; rfl
    | succ m ih =>
      intro hm
      have eu : ups p t v m = p m := by rw [ups_at, if_neg (by omega)]
      simp only [msk, eu]; rw [ih (by omega)]
  unfold mk
  show (if decide (ups p t v t = (u : Int)) = true then _ else _) = _
  rw [if_neg (by simp [ups_at]; omega), this t (Nat.le_refl _)]
/-- what the search holds: a beginning p of t things, the least cost so far and its name -/
def DS (n : Nat) (P W X K : Nat → Int) (g lo hi : Int) (h : Hp) (t : Nat) (p : Nat → Int) (L : Int) (b : Nat → Int) : Prop :=
  ∃ (r24 r25 r26 : Nat → Int) (kf : Int), h.2 23 = some (SO L g lo hi) ∧ h.2 24 = some (arr 1 512 r24) ∧ h.2 25 = some (arr 0 12 r25) ∧ h.2 26 = some (arr 0 12 r26) ∧ (∀ v : Nat, v < 12 → r25 v = mk p v t) ∧ (∀ i, i < t → r26 i = p i) ∧ (g ≠ 2 → ∀ M : Nat, M < 2 ^ n → r24 M = hco n W X K g M.testBit) ∧ isSc h 2 n P W X K kf b ∧ (L ≠ MXL → kf = mx b n)
def PC (n : Nat) (W X K : Nat → Int) (g : Int) (t : Nat) (p : Nat → Int) : Int := if g = 2 then PW W t p else PS n W X K g t p
theorem PC_bd {n : Nat} {W X K : Nat → Int} (hn : n ≤ 12) (hW : Wok W) (hX : Xok X K) {g : Int} {t : Nat} (ht : t ≤ 12) {p : Nat → Int} (hp : RGS t p) : -13000000000000000 ≤ PC n W X K g t p ∧ PC n W X K g t p ≤ 13000000000000000 := by
  unfold PC
  split
  · have := PW_bd hW ht p; omega
  · exact PS_bd hn hW hX ht hp
theorem grown_ok {n : Nat} {P W X K : Nat → Int} {g lo hi : Int} {h : Hp} {t : Nat} {p : Nat → Int} {L : Int} {b : Nat → Int} (hn : n ≤ 12) (hW : Wok W) (hX : Xok X K) (hg9 : g ≠ 2 → n ≤ 9) (D : DS n P W X K g lo hi h t p L b) (ht : t < n) (hp : RGS t p) {v : Nat} (hv : (v : Int) ≤ mx p t) : fX8_grown 23 2 (PC n W X K g t p) (mk p v t) t h = some (PC n W X K g (t + 1) (ups p t v), h) := by
  obtain ⟨r24, r25, r26, kf, d0, d1, d2, d3, d4, d5, d6, S, d8⟩ := D
  have hmk := mk_lt (p := p) (v := v) (t := t)
  have h2t : 2 ^ t < 4096 := by
    have : 2 ^ t ≤ 2 ^ 11 := Nat.pow_le_pow_right (by decide) (by omega)
    omega
  have hp' : RGS (t + 1) (ups p t v) := by
    intro i hi
    by_cases z : i = t
    · subst z
      rw [ups_at, if_pos rfl, mx_congr (g := ups p i v) (g' := p) (fun j hj => by rw [ups_at, if_neg (by omega)])]
      omega
    · rw [ups_at, if_neg z, mx_congr (g := ups p t v) (g' := p) (fun j hj => by rw [ups_at, if_neg (by omega)])]
      exact hp i (by omega)
  unfold fX8_grown
  rw [gI 4 d0 rfl, ob]
  by_cases g2 : g = 2
  · rw [if_pos g2, reach_ok S hW (by omega) (by omega) (by omega), ob]
    have e : PC n W X K g (t + 1) (ups p t v) = max (PC n W X K g t p) (hrch W (mk p v t).testBit t t) := by
      unfold PC
      rw [if_pos g2, if_pos g2]
      show max (maxN t _) (maxN t _) = _
      have e1 : maxN t (fun a => maxN a (fun b => if ups p t v a = ups p t v b then W (12 * a + b) else 0)) = PW W t p := maxN_congr (fun a ha => maxN_congr (fun b hb => by
        have ua : ups p t v a = p a := by rw [ups_at, if_neg (by omega)]
        have ub : ups p t v b = p b := by rw [ups_at, if_neg (by omega)]
        rw [ua, ub]))
      have e2 : maxN t (fun b => if ups p t v t = ups p t v b then W (12 * t + b) else 0) = hrch W (mk p v t).testBit t t := maxN_congr (fun b hb => by
        have ua : ups p t v t = v := by rw [ups_at, if_pos rfl]
        have ub : ups p t v b = p b := by rw [ups_at, if_neg (by omega)]
        rw [ua, ub, mk_bit]
        unfold pvt
        by_cases z : p b = (v : Int)
        · rw [if_pos z.symm, if_pos (by simp [hb, z])]
        · rw [if_neg (fun y => z y.symm), if_neg (by simp [z])])
      rw [e1, e2]
    rw [e]
  · have hn9 := hg9 g2
    have h2n : 2 ^ (t + 1) ≤ 2 ^ n := Nat.pow_le_pow_right (by decide) (by omega)
    have h29 : 2 ^ n ≤ 2 ^ 9 := Nat.pow_le_pow_right (by decide) hn9
    have hmk2 := mk_lt (p := ups p t v) (v := v) (t := t + 1)
    have eor : bOr (mk p v t) (bShl 1 t) = ((mk (ups p t v) v (t + 1) : Nat) : Int) := by
      rw [bShl_1 t (by omega), bOr_n (by omega) (by omega), mk_s]
    have h2tt : 2 ^ t ≤ 2 ^ n := Nat.pow_le_pow_right (by decide) (by omega)
    have b1 := PC_bd hn hW hX (g := g) (t := t) (by omega) hp
    have b2 := PC_bd hn hW hX (g := g) (t := t + 1) (by omega) hp'
    have e1 : r24 (mk p v t) = hco n W X K g (pvt p v t) := by
      rw [d6 g2 _ (by omega)]
      exact hco_congr hn (fun _ _ => rfl) (fun _ _ => rfl) (fun _ _ => rfl) (fun i hi => mk_bit i) g
    have e2 : r24 (mk (ups p t v) v (t + 1)) = hco n W X K g (pvt (ups p t v) v (t + 1)) := by
      rw [d6 g2 _ (by omega)]
      exact hco_congr hn (fun _ _ => rfl) (fun _ _ => rfl) (fun _ _ => rfl) (fun i hi => mk_bit i) g
    have e3 : PC n W X K g (t + 1) (ups p t v) = PC n W X K g t p - hco n W X K g (pvt p v t) + hco n W X K g (pvt (ups p t v) v (t + 1)) := by
      unfold PC
      rw [if_neg g2, if_neg g2]
      exact PS_step hn hp hv
    rw [if_neg g2, gR 0 d0 rfl, ob, aln_of d1, ob, eor, if_pos (by omega), ob, ald_of (mk p v t) d1 rfl (by omega), ob, ob, ald_of (mk (ups p t v) v (t + 1)) d1 rfl (by omega), ob, e1, e2, ← e3, c64_n (by omega) (by omega), ob]
theorem ups_rgs {t : Nat} {p : Nat → Int} (hp : RGS t p) {v : Nat} (hv : (v : Int) ≤ mx p t) : RGS (t + 1) (ups p t v) ∧ mx (ups p t v) (t + 1) = max (mx p t) ((v : Int) + 1) := by
  have em : mx (ups p t v) t = mx p t := mx_congr (fun j hj => by rw [ups_at, if_neg (by omega)])
  constructor
  · intro i hi
    by_cases z : i = t
    · subst z
      rw [ups_at, if_pos rfl, em]; omega
    · rw [ups_at, if_neg z, mx_congr (g := ups p t v) (g' := p) (fun j hj => by rw [ups_at, if_neg (by omega)])]
      exact hp i (by omega)
  · simp only [mx]
    rw [em, ups_at, if_pos rfl]
theorem take_ok {n : Nat} {P W X K : Nat → Int} {g lo hi : Int} {h : Hp} {p : Nat → Int} {L : Int} {b : Nat → Int} (hn : n ≤ 12) (hW : Wok W) (hX : Xok X K) (hS : Sym n W) (D : DS n P W X K g lo hi h n p L b) (hp : RGS n p) (hhi : mx p n ≤ hi) (B : BSt n lo hi (fun x => cst n W X K g x) MXL (fun x => ahead n x p) L b) :
    ∃ (h' : Hp) (L' : Int) (b' : Nat → Int), fX8_take 23 2 (mx p n) (PC n W X K g n p) h = some h' ∧ DS n P W X K g lo hi h' n p L' b' ∧ BSt n lo hi (fun x => cst n W X K g x) MXL (fun x => ahead n x p ∨ Eqn n x p) L' b' ∧ Fr (fun k => (7 ≤ k ∧ k ≤ 8) ∨ k = 23 ∨ (25 ≤ k ∧ k ≤ 26)) h h' := by
  obtain ⟨r24, r25, r26, kf, d0, d1, d2, d3, d4, d5, d6, S, d8⟩ := id D
  have ePC : PC n W X K g n p = cst n W X K g p := by
    unfold PC
    by_cases g2 : g = 2
    · subst g2; rw [if_pos rfl]; exact PW_end hn hW hS hp
    · rw [if_neg g2]; exact PS_end hn g2
  have cb := cst_bd hn hW hX (g := g) hp
  unfold fX8_take
  rw [gI 5 d0 rfl, ob]
  by_cases hlo : mx p n < lo
  · rw [if_pos hlo, fX8_take_17]
    refine ⟨h, L, b, rfl, D, B.mono (fun x hx => ⟨Or.inl, fun z => z.resolve_right (fun e => ?_)⟩), Fr.rf⟩
    have := hx.2.1
    rw [mx_congr e] at this; omega
  · have hq : Qn n lo hi p := ⟨hp, by omega, hhi⟩
    obtain ⟨ad1, ad2⟩ := B.add (A' := fun x => ahead n x p ∨ Eqn n x p) (fun x y e => cst_congr hn (fun _ _ => rfl) (fun _ _ => rfl) (fun _ _ => rfl) e g) hq (fun x _ => Iff.rfl) (fun x _ z => z) (by unfold MXL; omega)
    rw [if_neg hlo, gL 3 d0 rfl, ob]
    by_cases hc : PC n W X K g n p < L
    · have hc2 : lCmp (PC n W X K g n p) L < 0 := (lCmp_lt _ _).mpr hc
      obtain ⟨s0, s1, s2, s3, s4, p0, p1, gg, p2⟩ := S
      rw [if_pos hc2, pV (fs' := [vr 24, vr 25, vr 26, vl (PC n W X K g n p), vi g, vi lo, vi hi]) 3 d0 (by simp) rfl, ob, gR 2 hput_eq rfl, ob, gR 5 ((hput_ne (by omega)).trans s0) rfl, ob, gR 2 ((hput_ne (by omega)).trans p0) rfl, ob, gI 0 ((hput_ne (by omega)).trans s0) rfl, ob,
        cpyI_of n ((hput_ne (by omega)).trans d3) ((hput_ne (by omega)).trans p1) rfl (by omega) (by omega) (by omega), ob, gR 5 ((hput_ne (by omega)).trans ((hput_ne (by omega)).trans s0)) rfl, ob, pV (fs' := [vi n, vi (mx p n), vr 8, vr 9]) 1 ((hput_ne (by omega)).trans ((hput_ne (by omega)).trans p0)) (by simp) rfl, ob]
      have eb : Eqn n (fun k => if k < n then r26 k else b k) p := fun i hi => by
        show (if i < n then r26 i else b i) = p i
        rw [if_pos hi]; exact d5 i hi
      have B' := ad1 (by rw [ePC] at hc; exact Or.inr hc) (fun k => if k < n then r26 k else b k) eb
      refine ⟨_, cst n W X K g p, (fun k => if k < n then r26 k else b k), rfl, ⟨r24, r25, r26, mx p n, ?_, ?_, ?_, ?_, d4, d5, d6, ⟨?_, ?_, ?_, ?_, ?_, hput_eq, ?_, gg, ?_⟩, fun _ => (mx_congr eb).symm⟩, B', ((Fr.rf.put (q := 23) (by omega)).put (q := 8) (by omega)).put (q := 7) (by omega)⟩
      · rw [ePC]; exact (hput_ne (by omega)).trans ((hput_ne (by omega)).trans hput_eq)
      · exact (hput_ne (by omega)).trans ((hput_ne (by omega)).trans ((hput_ne (by omega)).trans d1))
      · exact (hput_ne (by omega)).trans ((hput_ne (by omega)).trans ((hput_ne (by omega)).trans d2))
      · exact (hput_ne (by omega)).trans ((hput_ne (by omega)).trans ((hput_ne (by omega)).trans d3))
      · exact (hput_ne (by omega)).trans ((hput_ne (by omega)).trans ((hput_ne (by omega)).trans s0))
      · exact (hput_ne (by omega)).trans ((hput_ne (by omega)).trans ((hput_ne (by omega)).trans s1))
      · exact (hput_ne (by omega)).trans ((hput_ne (by omega)).trans ((hput_ne (by omega)).trans s2))
      · exact (hput_ne (by omega)).trans ((hput_ne (by omega)).trans ((hput_ne (by omega)).trans s3))
      · exact (hput_ne (by omega)).trans ((hput_ne (by omega)).trans ((hput_ne (by omega)).trans s4))
      · exact (hput_ne (by omega)).trans hput_eq
      · exact (hput_ne (by omega)).trans ((hput_ne (by omega)).trans ((hput_ne (by omega)).trans p2))
    · have hc2 : ¬ lCmp (PC n W X K g n p) L < 0 := fun z => hc ((lCmp_lt _ _).mp z)
      rw [if_neg hc2, fX8_take_17]
      refine ⟨h, L, b, rfl, D, ad2 (fun z => ?_) (by rw [ePC] at hc; omega), Fr.rf⟩
      rw [ePC, z] at hc; unfold MXL at hc; omega
set_option maxHeartbeats 4000000 in
theorem desc_ok {n : Nat} {P W X K : Nat → Int} {g lo hi : Int} (hn1 : 1 ≤ n) (hn : n ≤ 12) (hW : Wok W) (hX : Xok X K) (hS : Sym n W) (hg9 : g ≠ 2 → n ≤ 9) (hhi1 : 1 ≤ hi) (hhi2 : hi ≤ 12) (hlo2 : lo ≤ 12) (hlo1 : 0 ≤ lo) : ∀ (N t : Nat) (p : Nat → Int) (L : Int) (b : Nat → Int) (h : Hp), n - t < N → t ≤ n → RGS t p → mx p t ≤ hi → DS n P W X K g lo hi h t p L b → BSt n lo hi (fun x => cst n W X K g x) MXL (fun x => ahead t x p) L b →
    ∃ (h' : Hp) (L' : Int) (b' : Nat → Int), fX8_descend N 23 2 t (mx p t) (PC n W X K g t p) h = some h' ∧ DS n P W X K g lo hi h' t p L' b' ∧ BSt n lo hi (fun x => cst n W X K g x) MXL (fun x => ahead t x p ∨ Eqn t x p) L' b' ∧ Fr (fun k => (7 ≤ k ∧ k ≤ 8) ∨ k = 23 ∨ (25 ≤ k ∧ k ≤ 26)) h h' := by
  intro N
  induction N with
  | zero => intro t p L b h hN; omega
  | succ N ih =>
    intro t p L b h hN ht hp hmh D B
    obtain ⟨r24, r25, r26, kf, d0, d1, d2, d3, d4, d5, d6, S, d8⟩ := id D
    have hm := hp.mx_le; have hm0 := mx_nonneg p t
    rw [fX8_descend, gI 0 S.1 rfl, ob]
    by_cases htn : t = n
    · subst htn
      obtain ⟨h', L', b', e1, D1, B1, F1⟩ := take_ok hn hW hX hS D hp hmh B
      rw [if_pos (by omega), fX8_descend_14, co d0, ob, e1, ob]
      exact ⟨h', L', b', rfl, D1, B1, F1⟩
    · rw [if_neg (by omega), if_pos (by omega)]
      rw [ob, gI 5 d0 rfl, ob, c32_n (by omega) (by omega), ob]
      by_cases hfew : lo ≤ mx p t + n - t
      · rw [if_pos hfew, gI 6 d0 rfl, ob, c32_n (by omega) (by omega), ob]
        -- the loop over heaps
        obtain ⟨last, hlast⟩ : ∃ last : Nat, min (mx p t) (hi - 1) = (last : Int) := ⟨(min (mx p t) (hi - 1)).toNat, by omega⟩
        rw [hlast]
        have key : ∃ (h' : Hp) (L' : Int) (b' : Nat → Int), fX8_descend_54 (fX8_descend N) FU 23 2 t (mx p t) (PC n W X K g t p) last ((0 : Nat) : Int) h = some h' ∧ DS n P W X K g lo hi h' t p L' b' ∧ BSt n lo hi (fun x => cst n W X K g x) MXL (fun x => ahead t x p ∨ (Eqn t x p ∧ x t < ((last + 1 : Nat) : Int))) L' b' ∧ Fr (fun k => (7 ≤ k ∧ k ≤ 8) ∨ k = 23 ∨ (25 ≤ k ∧ k ≤ 26)) h h' := by
          refine lp (fun N' v (z : Hp × Int × (Nat → Int)) => fX8_descend_54 (fX8_descend N) N' 23 2 t (mx p t) (PC n W X K g t p) last v z.1) (fun v z => DS n P W X K g lo hi z.1 t p z.2.1 z.2.2 ∧ BSt n lo hi (fun x => cst n W X K g x) MXL (fun x => ahead t x p ∨ (Eqn t x p ∧ x t < (v : Int))) z.2.1 z.2.2 ∧ Fr (fun k => (7 ≤ k ∧ k ≤ 8) ∨ k = 23 ∨ (25 ≤ k ∧ k ≤ 26)) h z.1) (last + 1) (fun r => ∃ (h' : Hp) (L' : Int) (b' : Nat → Int), r = some h' ∧ DS n P W X K g lo hi h' t p L' b' ∧ BSt n lo hi (fun x => cst n W X K g x) MXL (fun x => ahead t x p ∨ (Eqn t x p ∧ x t < ((last + 1 : Nat) : Int))) L' b' ∧ Fr (fun k => (7 ≤ k ∧ k ≤ 8) ∨ k = 23 ∨ (25 ≤ k ∧ k ≤ 26)) h h') ?_ ?_ FU 0 (h, L, b) (Nat.zero_le _) (FU_lt (by omega)) ⟨D, B.mono (fun x hx => ⟨Or.inl, fun z => z.elim id (fun y => ?_)⟩), Fr.rf⟩
          · intro N' v ⟨h1, L1, b1⟩ hv ⟨D1, B1, F1⟩
            have D1 : DS n P W X K g lo hi h1 t p L1 b1 := D1
            have B1 : BSt n lo hi (fun x => cst n W X K g x) MXL (fun x => ahead t x p ∨ (Eqn t x p ∧ x t < (v : Int))) L1 b1 := B1
            have F1 : Fr (fun k => (7 ≤ k ∧ k ≤ 8) ∨ k = 23 ∨ (25 ≤ k ∧ k ≤ 26)) h h1 := F1
            obtain ⟨q24, q25, q26, kf1, f0, f1, f2, f3, f4, f5, f6, S1, f8⟩ := id D1
            have hvm : (v : Int) ≤ mx p t := by omega
            obtain ⟨hp', em⟩ := ups_rgs hp hvm
            have gok := grown_ok hn hW hX hg9 D1 (by omega) hp hvm
            have hmk := mk_lt (p := p) (v := v) (t := t)
            have h2t : 2 ^ t < 4096 := by
              have : 2 ^ t ≤ 2 ^ 11 := Nat.pow_le_pow_right (by decide) (by omega)
              omega
            have eA : ∀ x, (ahead (t + 1) x (ups p t v) ∨ Eqn (t + 1) x (ups p t v)) ↔ (ahead t x p ∨ (Eqn t x p ∧ x t < ((v + 1 : Nat) : Int))) := by
              intro x
              rw [ahead_s, Eqn_s]
              constructor
              · rintro ((z | ⟨z1, z2⟩) | ⟨z1, z2⟩)
                · exact Or.inl z
                · exact Or.inr ⟨z1, by omega⟩
                · exact Or.inr ⟨z1, by omega⟩
              · rintro (z | ⟨z1, z2⟩)
                · exact Or.inl (Or.inl z)
                · by_cases y : x t < (v : Int)
                  · exact Or.inl (Or.inr ⟨z1, y⟩)
                  · exact Or.inr ⟨z1, by omega⟩
            -- the step itself
            have go : ∃ s' : Hp × Int × (Nat → Int), (DS n P W X K g lo hi s'.1 t p s'.2.1 s'.2.2 ∧ BSt n lo hi (fun x => cst n W X K g x) MXL (fun x => ahead t x p ∨ (Eqn t x p ∧ x t < ((v + 1 : Nat) : Int))) s'.2.1 s'.2.2 ∧ Fr (fun k => (7 ≤ k ∧ k ≤ 8) ∨ k = 23 ∨ (25 ≤ k ∧ k ≤ 26)) h s'.1) ∧ fX8_descend_110 (fX8_descend N) (fX8_descend_54 (fX8_descend N) N') 23 2 t (mx p t) (PC n W X K g t p) last v (mk p v t) (PC n W X K g (t + 1) (ups p t v)) h1 = fX8_descend_54 (fX8_descend N) N' 23 2 t (mx p t) (PC n W X K g t p) last ((v + 1 : Nat) : Int) s'.1 := by
              have eor : bOr (mk p v t) (bShl 1 t) = ((mk (ups p t v) v (t + 1) : Nat) : Int) := by
                rw [bShl_1 t (by omega), bOr_n (by omega) (by omega), mk_s]
              have D2 : DS n P W X K g lo hi (hput (hput h1 25 (arr 0 12 (ups q25 v (mk (ups p t v) v (t + 1))))) 26 (arr 0 12 (ups q26 t v))) (t + 1) (ups p t v) L1 b1 := by
                refine ⟨q24, _, _, kf1, (hput_ne (by omega)).trans ((hput_ne (by omega)).trans f0), (hput_ne (by omega)).trans ((hput_ne (by omega)).trans f1), (hput_ne (by omega)).trans hput_eq, hput_eq, fun u hu => ?_, fun i hi => ?_, f6, isSq.ag S1 (fun l hl => by obtain ⟨z1, z2⟩ := hl; exact (hput_ne (by omega)).trans (hput_ne (by omega))), f8⟩
                · rw [ups_at]
                  by_cases z : u = v
                  · subst z; rw [if_pos rfl]
                  · rw [if_neg z, mk_o z]; exact f4 u hu
                · rw [ups_at, ups_at]
                  by_cases z : i = t
                  · rw [if_pos z, if_pos z]
                  · rw [if_neg z, if_neg z]; exact f5 i (by omega)
              obtain ⟨h2, L2, b2, e2, D3, B3, F3⟩ := ih (t + 1) (ups p t v) L1 b1 _ (by omega) (by omega) hp' (by rw [em]; omega) D2 (B1.mono (fun x _ => ahead_s.symm))
              obtain ⟨w24, w25, w26, kf2, g0, g1, g2, g3, g4, g5, g6, S2, g8⟩ := id D3
              refine ⟨(hput h2 25 (arr 0 12 (ups w25 v (mk p v t))), L2, b2), ⟨⟨w24, _, w26, kf2, (hput_ne (by omega)).trans g0, (hput_ne (by omega)).trans g1, hput_eq, (hput_ne (by omega)).trans g3, fun u hu => ?_, fun i hi => ?_, g6, isSq.ag S2 (fun l hl => by obtain ⟨z1, z2⟩ := hl; exact hput_ne (by omega)), g8⟩, B3.mono (fun x _ => eA x), ((F1.tr ((Fr.rf.put (q := 25) (by omega)).put (q := 26) (by omega))).tr F3).put (q := 25) (by omega)⟩, ?_⟩
              · rw [ups_at]
                by_cases z : u = v
                · subst z; rw [if_pos rfl]
                · rw [if_neg z, g4 u hu, mk_o z]
              · rw [g5 i (by omega), ups_at, if_neg (by omega)]
              · rw [fX8_descend_110, gR 1 f0 rfl, ob, eor, ast_of v f2 rfl (by omega), ob, gR 2 ((hput_ne (by omega)).trans f0) rfl, ob, ast_of t ((hput_ne (by omega)).trans f3) rfl (by omega), ob]
                have fin : ∀ w : Int, w = mx (ups p t v) (t + 1) → fX8_descend_149 (fX8_descend N) (fX8_descend_54 (fX8_descend N) N') 23 2 t (mx p t) (PC n W X K g t p) last v (mk p v t) (PC n W X K g (t + 1) (ups p t v)) w ((t : Int) + 1) 2 23 (hput (hput h1 25 (arr 0 12 (ups q25 v (mk (ups p t v) v (t + 1))))) 26 (arr 0 12 (ups q26 t v))) = fX8_descend_54 (fX8_descend N) N' 23 2 t (mx p t) (PC n W X K g t p) last ((v + 1 : Nat) : Int) (hput h2 25 (arr 0 12 (ups w25 v (mk p v t)))) := by
                  intro w hw
                  have e2' : fX8_descend N 23 2 ((t : Int) + 1) w (PC n W X K g (t + 1) (ups p t v)) (hput (hput h1 25 (arr 0 12 (ups q25 v (mk (ups p t v) v (t + 1))))) 26 (arr 0 12 (ups q26 t v))) = some h2 := by rw [hw]; exact e2
                  rw [fX8_descend_149, co ((hput_ne (by omega)).trans ((hput_ne (by omega)).trans f0)), ob, e2', ob, gR 1 g0 rfl, ob, ast_of v g2 rfl (by omega), ob, fX8_descend_163, c32_n (by omega) (by omega), ob]; rfl
                by_cases z : (v : Int) = mx p t
                · rw [if_pos z, c32_n (by omega) (by omega), ob, c32_n (by omega) (by omega), ob]
                  exact fin _ (by rw [em]; omega)
                · rw [if_neg z, c32_n (by omega) (by omega), ob]
                  exact fin _ (by rw [em]; omega)
            show ∃ s', _ ∧ fX8_descend_54 (fX8_descend N) (N' + 1) 23 2 t (mx p t) (PC n W X K g t p) last v h1 = _
            rw [fX8_descend_54, if_neg (by omega), if_neg (by omega), gR 1 f0 rfl, ob, ald_of v f2 rfl (by omega), ob, f4 v (by omega), co f0, ob, gok, ob]
            simp only []
            rw [gI 4 f0 rfl, ob]
            by_cases g2 : g = 2
            · rw [if_pos g2, gL 3 f0 rfl, ob]
              by_cases hc : PC n W X K g (t + 1) (ups p t v) < L1
              · rw [if_pos ((lCmp_lt _ _).mpr hc)]; exact go
              · rw [if_neg (fun z => hc ((lCmp_lt _ _).mp z)), fX8_descend_163, c32_n (by omega) (by omega), ob]
                have hL1 : L1 ≠ MXL := by
                  intro z
                  have := PC_bd hn hW hX (g := g) (t := t + 1) (by omega) hp'
                  rw [z] at hc; unfold MXL at hc; omega
                refine ⟨(h1, L1, b1), ⟨D1, ?_, F1⟩, rfl⟩
                refine B1.pass hL1 (fun x _ z => z.elim Or.inl (fun y => Or.inr ⟨y.1, by omega⟩)) (fun x hx hx' hnx => ?_)
                have hx2 : Eqn t x p ∧ x t = (v : Int) := by
                  rcases hx' with z | ⟨z1, z2⟩
                  · exact absurd (Or.inl z) hnx
                  · refine ⟨z1, ?_⟩
                    have : ¬ x t < (v : Int) := fun y => hnx (Or.inr ⟨z1, y⟩)
                    omega
                have hx3 : Eqn (t + 1) x (ups p t v) := Eqn_s.mpr hx2
                refine ⟨?_, fun y hy hyA => ?_⟩
                · have e1 : PC n W X K g (t + 1) (ups p t v) ≤ cst n W X K g x := by
                    unfold PC
                    rw [if_pos g2, g2, ← PW_end hn hW hS hx.1, ← PW_congr hx3]
                    exact PW_mono (by omega) x
                  show L1 ≤ cst n W X K g x
                  omega
                · exact ahead_ext (by omega) (ahead_s.mpr hyA) hx3
            · rw [if_neg g2]; exact go
          · intro N' ⟨h1, L1, b1⟩ ⟨D1, B1, F1⟩
            show ∃ (h' : Hp) (L' : Int) (b' : Nat → Int), fX8_descend_54 (fX8_descend N) (N' + 1) 23 2 t (mx p t) (PC n W X K g t p) last ((last + 1 : Nat) : Int) h1 = some h' ∧ _
            rw [fX8_descend_54, if_pos (by omega), fX8_descend_169]
            exact ⟨h1, L1, b1, rfl, D1, B1, F1⟩
          · have := (hx.1 t (by omega)).1
            omega
        obtain ⟨h', L', b', e1, D1, B1, F1⟩ := key
        refine ⟨h', L', b', e1, D1, B1.mono (fun x hx => ⟨fun z => z.elim Or.inl (fun y => Or.inr y.1), fun z => z.elim Or.inl (fun y => Or.inr ⟨y, ?_⟩)⟩), F1⟩
        have a1 := (hx.1 t (by omega)).2
        rw [mx_congr y] at a1
        have a2 := lt_mx (g := x) (n := n) (i := t) (by omega)
        have a3 := hx.2.2
        omega
      · rw [if_neg hfew]
        refine ⟨h, L, b, rfl, D, B.mono (fun x hx => ⟨Or.inl, fun z => z.elim id (fun y => ?_)⟩), Fr.rf⟩
        have a1 := mx_ext hx.1 ht
        rw [mx_congr y] at a1
        have := hx.2.1
        omega
