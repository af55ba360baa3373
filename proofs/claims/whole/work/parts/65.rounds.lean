/-- 1 for a round that can't be without a quarrel -/
def brk (X K : Nat → Int) (a b c : Nat) : Int := if (0 < X (12 * a + b) ∧ 0 < X (12 * a + c) ∧ 0 < X (12 * b + c)) ∧ K (12 * a + b) + K (12 * a + c) + K (12 * b + c) = 2 then 1 else 0
theorem brk_01 (X K : Nat → Int) (a b c : Nat) : 0 ≤ brk X K a b c ∧ brk X K a b c ≤ 1 := by unfold brk; split <;> omega
theorem sumN_tri3 {n : Nat} (F : Nat → Nat → Nat → Int) : sumN n (fun a => sumN n (fun b => if a < b then sumN n (fun c => if b < c then F a b c else 0) else 0)) = sumN n (fun c => sumN c (fun b => sumN b (fun a => F a b c))) := by
  have e1 : ∀ a, sumN n (fun b => if a < b then sumN n (fun c => if b < c then F a b c else 0) else 0) = sumN n (fun c => sumN c (fun b => if a < b then F a b c else 0)) := by
    intro a
    rw [← sumN_tri (fun b c => if a < b then F a b c else 0)]
    refine sumN_congr (fun b hb => ?_)
    by_cases z : a < b
    · rw [if_pos z]; exact sumN_congr (fun c hc => by rw [if_pos z])
    · rw [if_neg z]; exact (sumN_zero (fun c hc => by rw [if_neg z]; split <;> rfl)).symm
  rw [sumN_congr (fun a _ => e1 a), sumN_comm]
  refine sumN_congr (fun c hc => ?_)
  rw [sumN_comm]
  exact sumN_congr (fun b hb => sumN_lt (by omega) (fun a => F a b c))
theorem isBroken_ok {h : Hp} {q : Nat} {n m k : Int} {P W X K f : Nat → Int} (S : isSq h q n m P W X K k f) (hX : Xok X K) {a b c : Nat} (ha : a < 12) (hb : b < 12) (hc : c < 12) : fX2_isBroken q a b c h = some (brk X K a b c, h) := by
  have l1 := (hX (12 * a + b) (by omega)).2; have l2 := (hX (12 * a + c) (by omega)).2; have l3 := (hX (12 * b + c) (by omega)).2
  have cs : ∀ z : Int, cob (z, h).2 6 q = some () := fun z => co S.1
  unfold fX2_isBroken brk
  simp only [fX2_isBroken_31, fX2_isBroken_32, fX2_isBroken_67, fX2_isBroken_68]
  rw [co S.1, ob, weightQ S ha hb, ob]
  by_cases e1 : X (12 * a + b) ≤ 0
  · rw [if_pos e1, if_pos trivial, cbo_n (Or.inl rfl), ob, if_neg (by omega)]
  · rw [if_neg e1, cs, ob, weightQ S ha hc, ob]
    by_cases e2 : X (12 * a + c) ≤ 0
    · rw [if_pos e2, if_pos trivial, cbo_n (Or.inl rfl), ob, if_neg (by omega)]
    · rw [if_neg e2, cs, ob, weightQ S hb hc, ob]
      by_cases e3 : X (12 * b + c) ≤ 0
      · rw [if_pos e3, if_pos trivial, cbo_n (Or.inl rfl), ob, if_neg (by omega)]
      · rw [if_neg e3, if_neg (by omega), cs, ob, likeQ S ha hb, ob, cs, ob, likeQ S ha hc, ob, cs, ob, likeQ S hb hc, ob]
        simp only []
        rw [c32_n (by omega) (by omega), ob]
        by_cases e4 : K (12 * a + b) + K (12 * a + c) + K (12 * b + c) = 2
        · rw [if_pos e4, cbo_n (Or.inr rfl), ob, if_pos ⟨⟨by omega, by omega, by omega⟩, e4⟩]
        · rw [if_neg e4, cbo_n (Or.inl rfl), ob, if_neg (fun z => e4 z.2)]
def rds (n : Nat) (X K : Nat → Int) : Int := sumN n (fun a => sumN a (fun b => sumN b (fun c => brk X K a b c)))
theorem s1b {b : Nat} (G : Nat → Int) (hG : ∀ i, 0 ≤ G i ∧ G i ≤ 1) (hb : b ≤ 12) : -12 ≤ sumN b G ∧ sumN b G ≤ 12 := by
  have := sumN_01 (n := b) (F := G) (fun i _ => hG i); omega
theorem s2b {a : Nat} (G : Nat → Int) (hG : ∀ i, i < a → -12 ≤ G i ∧ G i ≤ 12) (ha : a ≤ 12) : -144 ≤ sumN a G ∧ sumN a G ≤ 144 := by
  have := sumN_bd (n := a) (F := G) (B := 12) hG; omega
theorem brokenRounds_ok {h : Hp} {q n : Nat} {m k : Int} {P W X K f : Nat → Int} (S : isSq h q n m P W X K k f) (hn1 : 1 ≤ n) (hn : n ≤ 12) (hX : Xok X K) : fX2_brokenRounds q h = some (rds n X K, h) := by
  unfold fX2_brokenRounds
  by_cases n1 : n = 1
  · subst n1
    rw [FU1]
    simp only [fX2_brokenRounds_4, fX2_brokenRounds_65]
    rw [gI 0 S.1 rfl, ob, if_pos (by omega)]; rfl
  have b1 : ∀ a b, b ≤ 12 → -12 ≤ sumN b (fun c => brk X K a b c) ∧ sumN b (fun c => brk X K a b c) ≤ 12 := fun a b hb => s1b _ (fun c => brk_01 X K a b c) hb
  have b2 : ∀ a, a ≤ 12 → -144 ≤ sumN a (fun b => sumN b (fun c => brk X K a b c)) ∧ sumN a (fun b => sumN b (fun c => brk X K a b c)) ≤ 144 := fun a ha => s2b _ (fun b hb => b1 a b (by omega)) ha
  refine lpsum (fun N i c => fX2_brokenRounds_4 N q c i h) (fun a => sumN a (fun b => sumN b (fun c => brk X K a b c))) n 2 0 144 _ (by omega) (by omega) (fun i hi => ?_) (fun i hi => b2 i (by omega)) ?_ ?_
  · have : i = 0 ∨ i = 1 := by omega
    rcases this with rfl | rfl <;> rfl
  · intro N a c ha0 ha h2 h3
    simp only [fX2_brokenRounds_4]
    rw [gI 0 S.1 rfl, ob, if_neg (by omega)]
    refine lpsum (fun N' b c => fX2_brokenRounds_14 (fX2_brokenRounds_4 N) N' q c a b h) (fun b => sumN b (fun c => brk X K a b c)) a 1 c 12 _ (by omega) (by omega) (fun i hi => ?_) (fun i hi => b1 a i (by omega)) ?_ ?_
    · have : i = 0 := by omega
      subst this; rfl
    · intro N' b c' hb0 hb hc0 hc1
      simp only [fX2_brokenRounds_14]
      rw [if_neg (by omega)]
      refine lpsum (fun N'' d c => fX2_brokenRounds_22 (fX2_brokenRounds_4 N) (fX2_brokenRounds_14 (fX2_brokenRounds_4 N) N') N'' q c a b d h) (fun d => brk X K a b d) b 0 c' 1 _ (by omega) (by omega) (fun i hi => by omega) (fun i hi => by have := brk_01 X K a b i; omega) ?_ ?_
      · intro N'' d c'' hd0 hd hc2 hc3
        have hb1 := brk_01 X K a b d
        simp only [fX2_brokenRounds_22, fX2_brokenRounds_45]
        rw [if_neg (by omega), isBroken_ok S hX (by omega) (by omega) (by omega), ob]
        by_cases z : brk X K a b d = 0
        · rw [if_pos z, c32_n (by omega) (by omega), ob, c32_n (by omega) (by omega), ob, z]; rfl
        · have z1 : brk X K a b d = 1 := by omega
          rw [if_neg z, c32_n (by omega) (by omega), ob, c32_n (by omega) (by omega), ob, z1]; rfl
      · intro N''
        simp only [fX2_brokenRounds_22, fX2_brokenRounds_53]
        rw [if_pos (by omega), c32_n (by omega) (by omega), ob]; rfl
    · intro N'
      simp only [fX2_brokenRounds_14, fX2_brokenRounds_59]
      rw [if_pos (by omega), c32_n (by omega) (by omega), ob]; rfl
  · intro N
    simp only [fX2_brokenRounds_4, fX2_brokenRounds_65]
    rw [gI 0 S.1 rfl, ob, if_pos (by omega), Int.zero_add]; rfl
section
variable {h : Hp} {s : Scn} {hist : List Scn} {x : Aux} {flt : Int}
/-- pulls: like with weight above 0 -/
def pul (X K : Nat → Int) (a b : Nat) : Bool := decide (0 < X (12 * a + b) ∧ K (12 * a + b) = 1)
theorem r_like (R : RI h s hist x flt) (G : GSc s) {a b : Nat} (ha : a < 12) (hb : b < 12) : fX12_like 62 a b h = some (if pul (sX s) (sK s) a b then 1 else 0, h) := by
  obtain ⟨pa, fp, sm, o⟩ := R.obj
  obtain ⟨X, eX, qX⟩ := R.wgt
  obtain ⟨K, eK, qK⟩ := R.lik
  have hk := (G.xok (12 * a + b) (by omega)).2
  unfold fX12_like pul
  simp only [fX12_like_29, fX12_like_30]
  rw [c32_n (by omega) (by omega), ob, gR 3 o rfl, ob, ald_of (12 * a + b) eX (by omega) (by omega), ob, qX _ (by omega)]
  by_cases e1 : sX s (12 * a + b) ≤ 0
  · rw [if_pos e1, cbo_n (Or.inl rfl), ob, if_neg (by simp; omega)]
  · rw [if_neg e1, gR 4 o rfl, ob, ald_of (12 * a + b) eK (by omega) (by omega), ob, qK _ (by omega)]
    by_cases e2 : sK s (12 * a + b) = 0
    · rw [if_pos e2, cbo_n (Or.inl rfl), ob, if_neg (by simp; omega)]
    · rw [if_neg e2, cbo_n (Or.inr rfl), ob, if_pos (by simp; omega)]
theorem r_rounds (R : RI h s hist x flt) (G : GSc s) : fX12_rounds_9 FU 62 0 0 h = some (rds (sn s) (sX s) (sK s), h) := by
  have hn := G.2.1
  obtain ⟨pa, fp, sm, o⟩ := R.obj
  obtain ⟨X, eX, qX⟩ := R.wgt
  have sy : ∀ a b, a < 12 → b < 12 → sX s (12 * a + b) = sX s (12 * b + a) := G.2.2.2.2.2.2.2.1
  have sk : ∀ a b, a < 12 → b < 12 → sK s (12 * a + b) = sK s (12 * b + a) := G.2.2.2.2.2.2.2.2.2.2.1
  have e0 : rds (sn s) (sX s) (sK s) = sumN (sn s) (fun a => sumN (sn s) (fun b => if a < b then sumN (sn s) (fun c => if b < c then brk (sX s) (sK s) a b c else 0) else 0)) := by
    rw [sumN_tri3 (fun a b c => brk (sX s) (sK s) a b c)]
    refine sumN_congr (fun a ha => sumN_congr (fun b hb => sumN_congr (fun c hc => ?_)))
    unfold brk
    rw [sy a b (by omega) (by omega), sy a c (by omega) (by omega), sy b c (by omega) (by omega), sk a b (by omega) (by omega), sk a c (by omega) (by omega), sk b c (by omega) (by omega)]
    by_cases z : (0 < sX s (12 * b + a) ∧ 0 < sX s (12 * c + a) ∧ 0 < sX s (12 * c + b)) ∧ sK s (12 * b + a) + sK s (12 * c + a) + sK s (12 * c + b) = 2
    · rw [if_pos z, if_pos (by omega)]
    · rw [if_neg z, if_neg (by omega)]
  rw [e0]
  have b0 : ∀ a b c, 0 ≤ (if b < c then brk (sX s) (sK s) a b c else 0) ∧ (if b < c then brk (sX s) (sK s) a b c else 0) ≤ 1 := fun a b c => by
    have := brk_01 (sX s) (sK s) a b c
    split <;> omega
  have b1 : ∀ a b, -12 ≤ (if a < b then sumN (sn s) (fun c => if b < c then brk (sX s) (sK s) a b c else 0) else 0) ∧ (if a < b then sumN (sn s) (fun c => if b < c then brk (sX s) (sK s) a b c else 0) else 0) ≤ 12 := fun a b => by
    have := s1b (b := sn s) (fun c => if b < c then brk (sX s) (sK s) a b c else 0) (b0 a b) hn
    split <;> omega
  refine lpsum (fun N i c => fX12_rounds_9 N 62 c i h) (fun a => sumN (sn s) (fun b => if a < b then sumN (sn s) (fun c => if b < c then brk (sX s) (sK s) a b c else 0) else 0)) (sn s) 0 0 144 _ (by omega) (by omega) (fun i hi => by omega) (fun i hi => s2b _ (fun b _ => b1 i b) hn) ?_ ?_
  · intro N a c _ ha h2 h3
    simp only [fX12_rounds_9]
    rw [R.nb, if_neg (by show ¬ (sn s : Int) ≤ a; omega), c32_n (by omega) (by omega), ob]
    refine lpsum (fun N' b c => fX12_rounds_21 (fX12_rounds_9 N) N' 62 c a b h) (fun b => if a < b then sumN (sn s) (fun c => if b < c then brk (sX s) (sK s) a b c else 0) else 0) (sn s) (a + 1) c 12 _ (by omega) (by omega) (fun i hi => by rw [if_neg (by omega)]) (fun i hi => b1 a i) ?_ ?_
    · intro N' b c' hb0 hb hc0 hc1
      simp only [fX12_rounds_21]
      rw [R.nb, if_neg (by show ¬ (sn s : Int) ≤ b; omega), c32_n (by omega) (by omega), ob, if_pos (show a < b by omega)]
      refine lpsum (fun N'' d c => fX12_rounds_34 (fX12_rounds_9 N) (fX12_rounds_21 (fX12_rounds_9 N) N') N'' 62 c a b d h) (fun d => if b < d then brk (sX s) (sK s) a b d else 0) (sn s) (b + 1) c' 1 _ (by omega) (by omega) (fun i hi => by rw [if_neg (by omega)]) (fun i hi => by have := b0 a b i; omega) ?_ ?_
      · intro N'' d c'' hd0 hd hc2 hc3
        have x1 := (G.xok (12 * a + b) (by omega)); have x2 := (G.xok (12 * a + d) (by omega)); have x3 := (G.xok (12 * b + d) (by omega))
        simp only [fX12_rounds_34, fX12_rounds_104, fX12_rounds_119, fX12_rounds_135, fX12_rounds_147]
        have fin : ∀ e : Int, (c32 ((d : Int) + 1)).bind (fun _ => fX12_rounds_34 (fX12_rounds_9 N) (fX12_rounds_21 (fX12_rounds_9 N) N') N'' 62 (c'' + e) a b ((d : Int) + 1) h) = fX12_rounds_34 (fX12_rounds_9 N) (fX12_rounds_21 (fX12_rounds_9 N) N') N'' 62 (c'' + e) a b ((d + 1 : Nat) : Int) h := by
          intro e; rw [c32_n (by omega) (by omega), ob]; rfl
        have f0 := fin 0
        rw [Int.add_zero] at f0
        rw [R.nb, if_neg (by show ¬ (sn s : Int) ≤ d; omega), if_pos (show b < d by omega), gR 3 o rfl, ob, ald_of (12 * a + b) eX (by omega) (by omega), ob, qX _ (by omega)]
        unfold brk
        by_cases e1 : sX s (12 * a + b) = 0
        · rw [if_pos e1, f0, if_neg (by omega), Int.add_zero]
        · rw [if_neg e1, ob, ald_of (12 * a + d) eX (by omega) (by omega), ob, qX _ (by omega)]
          by_cases e2 : sX s (12 * a + d) = 0
          · rw [if_pos e2, f0, if_neg (by omega), Int.add_zero]
          · rw [if_neg e2, ob, ald_of (12 * b + d) eX (by omega) (by omega), ob, qX _ (by omega)]
            by_cases e3 : sX s (12 * b + d) = 0
            · rw [if_pos e3, f0, if_neg (by omega), Int.add_zero]
            · have pk : ∀ u v, u < 12 → v < 12 → sX s (12 * u + v) ≠ 0 → fX12_like 62 u v h = some (sK s (12 * u + v), h) := by
                intro u v hu hv hne
                rw [r_like R G hu hv]
                have y := G.xok (12 * u + v) (by omega)
                unfold pul
                rcases y.2 with w | w
                · rw [if_neg (by simp; omega), w]
                · rw [if_pos (by simp; omega), w]
              have cc : ∀ z : Int, cob (z, h).2 11 62 = some () := fun z => R.cb
              rw [if_neg e3, R.cb, ob, pk a b (by omega) (by omega) e1, ob]
              have t3 : ∀ v : Int, (v = 0 ∨ v = 1 ∨ v = 2) → ((cob h 11 62).bind fun _ => (fX12_like 62 b d h).bind fun p2 => if p2.1 = 0 then (c32 v).bind fun _ => (c32 (v + 0)).bind fun _ => if v + 0 = 2 then (c32 (c'' + 1)).bind fun _ => (c32 ((d : Int) + 1)).bind fun _ => fX12_rounds_34 (fX12_rounds_9 N) (fX12_rounds_21 (fX12_rounds_9 N) N') N'' 62 (c'' + 1) a b ((d : Int) + 1) p2.2 else (c32 ((d : Int) + 1)).bind fun _ => fX12_rounds_34 (fX12_rounds_9 N) (fX12_rounds_21 (fX12_rounds_9 N) N') N'' 62 c'' a b ((d : Int) + 1) p2.2 else (c32 v).bind fun _ => (c32 (v + 1)).bind fun _ => if v + 1 = 2 then (c32 (c'' + 1)).bind fun _ => (c32 ((d : Int) + 1)).bind fun _ => fX12_rounds_34 (fX12_rounds_9 N) (fX12_rounds_21 (fX12_rounds_9 N) N') N'' 62 (c'' + 1) a b ((d : Int) + 1) p2.2 else (c32 ((d : Int) + 1)).bind fun _ => fX12_rounds_34 (fX12_rounds_9 N) (fX12_rounds_21 (fX12_rounds_9 N) N') N'' 62 c'' a b ((d : Int) + 1) p2.2) = fX12_rounds_34 (fX12_rounds_9 N) (fX12_rounds_21 (fX12_rounds_9 N) N') N'' 62 (c'' + if v + sK s (12 * b + d) = 2 then 1 else 0) a b ((d + 1 : Nat) : Int) h := by
                intro v hv
                rw [R.cb, ob, pk b d (by omega) (by omega) e3, ob]
                by_cases w : sK s (12 * b + d) = 0
                · rw [if_pos w, c32_n (by omega) (by omega), ob, c32_n (by omega) (by omega), ob, w]
                  by_cases y : v + 0 = 2
                  · rw [if_pos y, if_pos y, c32_n (by omega) (by omega), ob]; exact fin 1
                  · rw [if_neg y, if_neg y, Int.add_zero]; exact f0
                · have w1 : sK s (12 * b + d) = 1 := by omega
                  rw [if_neg w, c32_n (by omega) (by omega), ob, c32_n (by omega) (by omega), ob, w1]
                  by_cases y : v + 1 = 2
                  · rw [if_pos y, if_pos y, c32_n (by omega) (by omega), ob]; exact fin 1
                  · rw [if_neg y, if_neg y, Int.add_zero]; exact f0
              have k1 := x1.2; have k2 := x2.2
              have eb : ∀ v : Int, v = sK s (12 * a + b) + sK s (12 * a + d) → (if (0 < sX s (12 * a + b) ∧ 0 < sX s (12 * a + d) ∧ 0 < sX s (12 * b + d)) ∧ sK s (12 * a + b) + sK s (12 * a + d) + sK s (12 * b + d) = 2 then (1 : Int) else 0) = if v + sK s (12 * b + d) = 2 then 1 else 0 := by
                intro v hv
                by_cases y : v + sK s (12 * b + d) = 2
                · rw [if_pos y, if_pos (by omega)]
                · rw [if_neg y, if_neg (by omega)]
              by_cases w1 : sK s (12 * a + b) = 0
              · rw [if_pos w1, cc, ob, pk a d (by omega) (by omega) e2, ob]
                by_cases w2 : sK s (12 * a + d) = 0
                · rw [if_pos w2, eb 0 (by omega)]; exact t3 0 (by omega)
                · rw [if_neg w2, eb 1 (by omega)]; exact t3 1 (by omega)
              · rw [if_neg w1, cc, ob, pk a d (by omega) (by omega) e2, ob]
                by_cases w2 : sK s (12 * a + d) = 0
                · rw [if_pos w2, eb 1 (by omega)]; exact t3 1 (by omega)
                · rw [if_neg w2, eb 2 (by omega)]; exact t3 2 (by omega)
      · intro N''
        simp only [fX12_rounds_34, fX12_rounds_153]
        rw [R.nb, if_pos (by show (sn s : Int) ≤ sn s; omega), c32_n (by omega) (by omega), ob]; rfl
    · intro N'
      simp only [fX12_rounds_21, fX12_rounds_159]
      rw [R.nb, if_pos (by show (sn s : Int) ≤ sn s; omega), c32_n (by omega) (by omega), ob]; rfl
  · intro N
    simp only [fX12_rounds_9, fX12_rounds_165]
    rw [R.nb, if_pos (by show (sn s : Int) ≤ sn s; omega), Int.zero_add]
theorem rds_congr {n : Nat} {X X' K K' : Nat → Int} (hn : n ≤ 12) (eX : Eqn 144 X X') (eK : Eqn 144 K K') : rds n X K = rds n X' K' :=
  sumN_congr (fun a ha => sumN_congr (fun b hb => sumN_congr (fun c hc => by
    unfold brk; rw [eX _ (by omega), eX _ (by omega), eX _ (by omega), eK _ (by omega), eK _ (by omega), eK _ (by omega)])))
end
theorem both_rounds {h : Hp} (B : Both h) : ∃ r h1 h2, fX11_rounds 1 h = some (r, h1) ∧ fX12_rounds 62 h1 = some (r, h2) ∧ Both h2 := by
  obtain ⟨s, hist, x, flt, G, C, R⟩ := B
  obtain ⟨h2, e2, R2, C1, F2, B2⟩ := read2 G C R
  obtain ⟨P, W, X, K, f, S, z1, z2, z3, z4, z5⟩ := C1.2.1
  refine ⟨rds (sn s) (sX s) (sK s), hput h 1 (BO 0), h2, ?_, ?_, B2⟩
  · unfold fX11_rounds
    rw [C.put1 0, ob, gR 0 C1.1 rfl, ob, brokenRounds_ok S G.1.1 G.1.2.1 (G.1.xok.eq z3 z4), ob, rds_congr G.1.2.1 z3 z4]
  · unfold fX12_rounds
    rw [e2, ob, r_rounds R2 G.1]
