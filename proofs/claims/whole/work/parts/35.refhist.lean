theorem bDiv_n {a b : Nat} (ha : a < 2147483648) (hb : b < 2147483648) (h0 : 0 < b) : bDiv a b = ((a / b : Nat) : Int) := by
  unfold bDiv
  have h1 : (Int32.ofInt (a : Int) / Int32.ofInt (b : Int)).toInt = ((a : Int).tdiv (b : Int)).bmod (2 ^ 32) := by
    rw [Int32.toInt_div, i32_to ⟨by omega, by omega⟩, i32_to ⟨by omega, by omega⟩]
  rw [h1, ← Int.ofNat_tdiv]
  have h2 : a / b ≤ a := Nat.div_le_self a b
  generalize a / b = c at h2 ⊢
  rw [Int.bmod_eq_of_le (by omega) (by omega)]
theorem bRem_n {a b : Nat} (ha : a < 2147483648) (hb : b < 2147483648) (h0 : 0 < b) : bRem a b = ((a % b : Nat) : Int) := by
  unfold bRem
  have h1 : Int32.ofInt (a : Int) / Int32.ofInt (b : Int) = Int32.ofInt ((a / b : Nat) : Int) := by
    have := bDiv_n ha hb h0
    unfold bDiv at this
    rw [← this, Int32.ofInt_toInt]
  have h2 : a % b ≤ a := Nat.mod_le a b
  have h3 := Nat.div_add_mod a b
  rw [h1, ← Int32.ofInt_mul, ← Int32.ofInt_sub, i32_to]
  · have : (b : Int) * ((a / b : Nat) : Int) + ((a % b : Nat) : Int) = (a : Int) := by exact_mod_cast h3
    rw [Int.mul_comm]; omega
  · have : (b : Int) * ((a / b : Nat) : Int) + ((a % b : Nat) : Int) = (a : Int) := by exact_mod_cast h3
    rw [Int.mul_comm]
    exact ⟨by omega, by omega⟩
/-- slot t of the reference's rows holds a scene -/
def RSl (Z P W X K N : Nat → Int) (t : Nat) (s : Scn) : Prop := Z t = sn s ∧ (∀ i, i < 48 → P (48 * t + i) = sP s i) ∧ (∀ i, i < 144 → W (144 * t + i) = sW s i) ∧ (∀ i, i < 144 → X (144 * t + i) = sX s i) ∧ (∀ i, i < 144 → K (144 * t + i) = sK s i) ∧ ∀ i, i < sn s → N (12 * t + i) = sf s i
def RHs (Z P W X K N : Nat → Int) (pa fp : Nat) (hist : List Scn) : Prop := pa = hist.length ∧ pa ≤ 20 ∧ fp < 20 ∧ ∀ (k : Nat) (s : Scn), hist[k]? = some s → RSl Z P W X K N (1 + (fp + 19 + pa - k) % 20) s
theorem RSl.cp {Z P W X K N P' W' X' K' N' : Nat → Int} {a b : Nat} {s : Scn} (h : RSl Z P W X K N a s) (hn : sn s ≤ 12) (c1 : Cpd 48 (48 * a) (48 * b) P P') (c2 : Cpd 144 (144 * a) (144 * b) W W') (c3 : Cpd 144 (144 * a) (144 * b) X X') (c4 : Cpd 144 (144 * a) (144 * b) K K') (c5 : Cpd 12 (12 * a) (12 * b) N N') : RSl (ups Z b (Z a)) P' W' X' K' N' b s := by
  obtain ⟨h0, h1, h2, h3, h4, h5⟩ := h
  exact ⟨by simp [ups_at, h0], fun i hi => (c1.1 i hi).trans (h1 i hi), fun i hi => (c2.1 i hi).trans (h2 i hi), fun i hi => (c3.1 i hi).trans (h3 i hi), fun i hi => (c4.1 i hi).trans (h4 i hi), fun i hi => (c5.1 i (by omega)).trans (h5 i hi)⟩
theorem RSl.ot {Z P W X K N P' W' X' K' N' : Nat → Int} {a b t : Nat} {s : Scn} (h : RSl Z P W X K N t s) (hn : sn s ≤ 12) (ht : t ≠ b) (c1 : Cpd 48 (48 * a) (48 * b) P P') (c2 : Cpd 144 (144 * a) (144 * b) W W') (c3 : Cpd 144 (144 * a) (144 * b) X X') (c4 : Cpd 144 (144 * a) (144 * b) K K') (c5 : Cpd 12 (12 * a) (12 * b) N N') : RSl (ups Z b (Z a)) P' W' X' K' N' t s := by
  obtain ⟨h0, h1, h2, h3, h4, h5⟩ := h
  exact ⟨by rw [ups_at, if_neg ht, h0], fun i hi => (c1.2 _ (by omega)).trans (h1 i hi), fun i hi => (c2.2 _ (by omega)).trans (h2 i hi), fun i hi => (c3.2 _ (by omega)).trans (h3 i hi), fun i hi => (c4.2 _ (by omega)).trans (h4 i hi), fun i hi => (c5.2 _ (by omega)).trans (h5 i hi)⟩
def like01 (s : Scn) : Prop := ∀ i, i < 144 → sK s i = 0 ∨ sK s i = 1
set_option maxHeartbeats 2000000 in
theorem change_ok {h : Hp} {pa fp : Nat} {sk sm jn li fl : Int} {Z P W X K N : Nat → Int} {s : Scn} {hist : List Scn} (hs : sn s ≤ 12) (hl : like01 s) (hh : ∀ x ∈ hist, sn x ≤ 12) (o : h.2 62 = some (MO pa fp sk sm jn li fl)) (M : M6 h Z P W X K N) (R0 : RSl Z P W X K N 0 s) (RH : RHs Z P W X K N pa fp hist) :
    ∃ (h' : Hp) (pa' fp' : Nat) (Z' P' W' X' K' N' : Nat → Int), fX12_change 62 h = some h' ∧ h'.2 62 = some (MO pa' fp' sk sm jn li fl) ∧ M6 h' Z' P' W' X' K' N' ∧ RSl Z' P' W' X' K' N' 0 s ∧ RHs Z' P' W' X' K' N' pa' fp' ((s :: hist).take 20) ∧ Fr (fun k => 62 ≤ k ∧ k ≤ 68) h h' := by
  obtain ⟨r1, r2, r3, r4⟩ := RH
  have fin : ∀ (g : Hp) (pa' fp' : Nat), g.2 62 = some (MO pa' fp' sk sm jn li fl) → M6 g Z P W X K N → Fr (fun k => 62 ≤ k ∧ k ≤ 68) h g → 1 ≤ pa' → pa' ≤ 20 → fp' < 20 → pa' = min (pa + 1) 20 → (fp' + pa') % 20 = (fp + pa + 1) % 20 →
      ∃ (h' : Hp) (pa' fp' : Nat) (Z' P' W' X' K' N' : Nat → Int), fX12_change_35 62 g = some h' ∧ h'.2 62 = some (MO pa' fp' sk sm jn li fl) ∧ M6 h' Z' P' W' X' K' N' ∧ RSl Z' P' W' X' K' N' 0 s ∧ RHs Z' P' W' X' K' N' pa' fp' ((s :: hist).take 20) ∧ Fr (fun k => 62 ≤ k ∧ k ≤ 68) h h' := by
    intro g pa' fp' a1 a2 a3 a4 a5 a6 a7 a8
    have e0 : ((fp' : Int) + (pa' : Int)) - 1 = ((fp' + pa' - 1 : Nat) : Int) := by omega
    have e1 : 1 + bRem (((fp' : Int) + (pa' : Int)) - 1) 20 = ((1 + (fp' + pa' - 1) % 20 : Nat) : Int) := by
      rw [e0, show (20 : Int) = ((20 : Nat) : Int) from rfl, bRem_n (by omega) (by omega) (by omega)]; omega
    obtain ⟨h', P', W', X', K', N', e, m, c1, c2, c3, c4, c5, F⟩ := copy_ok a1 a2 (a := 0) (b := 1 + (fp' + pa' - 1) % 20) (by omega) (by omega) (by omega) (fun i hi => by rw [R0.2.2.2.2.1 i hi]; exact hl i hi)
    unfold fX12_change_35
    rw [gI 7 a1 rfl, ob, gI 6 a1 rfl, ob, e1, c32_n (by omega) (by omega), ob, co a1, ob]
    have e' : fX12_copy 62 0 ((1 + (fp' + pa' - 1) % 20 : Nat) : Int) g = some h' := e
    rw [e', ob]
    refine ⟨h', pa', fp', _, P', W', X', K', N', rfl, (F.2 62 (by omega)).trans a1, m, R0.ot hs (by omega) c1 c2 c3 c4 c5, ⟨?_, a5, a6, ?_⟩, a3.tr (F.mono (fun k hk => ⟨by omega, by omega⟩))⟩
    · rw [take20_len s hist (by omega)]; omega
    · intro k x hk
      obtain ⟨k20, hk⟩ := take20_get hk
      rcases hk with ⟨rfl, rfl⟩ | ⟨j, rfl, hj⟩
      · have : 1 + (fp' + 19 + pa' - 0) % 20 = 1 + (fp' + pa' - 1) % 20 := by omega
        rw [this]; exact R0.cp hs c1 c2 c3 c4 c5
      · have hjl : j < hist.length := (List.getElem?_eq_some_iff.mp hj).1
        have e2 : (fp' + 19 + pa' - (j + 1)) % 20 = (fp + 19 + pa - j) % 20 := by omega
        rw [e2]
        exact (r4 j x hj).ot (hh x (List.mem_of_getElem? hj)) (by omega) c1 c2 c3 c4 c5
  unfold fX12_change
  rw [gI 6 o rfl, ob]
  obtain ⟨m0, m1, m2, m3, m4, m5⟩ := M
  by_cases e : pa = 20
  · rw [if_pos (by omega), gI 7 o rfl, ob]
    have e1 : bRem ((fp : Int) + 1) 20 = (((fp + 1) % 20 : Nat) : Int) := by
      rw [show (fp : Int) + 1 = ((fp + 1 : Nat) : Int) from rfl, show (20 : Int) = ((20 : Nat) : Int) from rfl, bRem_n (by omega) (by omega) (by omega)]
    rw [e1, pV (fs' := [vr 63, vr 64, vr 65, vr 66, vr 67, vr 68, vi pa, vi (((fp + 1) % 20 : Nat) : Int), vi sk, vi sm, vr 69, vi jn, vr 70, vr 71, vr 72, vr 73, vr 74, vr 75, vi li, vi fl, vr 76, vr 77, vr 78, vr 79, vr 80]) 7 o (by simp) rfl, ob]
    exact fin _ pa ((fp + 1) % 20) hput_eq ⟨(hput_ne (by omega)).trans m0, (hput_ne (by omega)).trans m1, (hput_ne (by omega)).trans m2, (hput_ne (by omega)).trans m3, (hput_ne (by omega)).trans m4, (hput_ne (by omega)).trans m5⟩ (Fr.rf.put ⟨by omega, by omega⟩) (by omega) (by omega) (by omega) (by omega) (by omega)
  · rw [if_neg (by omega), ob, c32_n (by omega) (by omega), ob, show (pa : Int) + 1 = ((pa + 1 : Nat) : Int) from rfl, pV (fs' := [vr 63, vr 64, vr 65, vr 66, vr 67, vr 68, vi ((pa + 1 : Nat) : Int), vi fp, vi sk, vi sm, vr 69, vi jn, vr 70, vr 71, vr 72, vr 73, vr 74, vr 75, vi li, vi fl, vr 76, vr 77, vr 78, vr 79, vr 80]) 6 o (by simp) rfl, ob]
    exact fin _ (pa + 1) fp hput_eq ⟨(hput_ne (by omega)).trans m0, (hput_ne (by omega)).trans m1, (hput_ne (by omega)).trans m2, (hput_ne (by omega)).trans m3, (hput_ne (by omega)).trans m4, (hput_ne (by omega)).trans m5⟩ (Fr.rf.put ⟨by omega, by omega⟩) (by omega) (by omega) (by omega) (by omega) (by omega)
