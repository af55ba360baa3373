theorem take20_len (s : Scn) (hist : List Scn) (h : hist.length ≤ 20) : ((s :: hist).take 20).length = min (hist.length + 1) 20 := by
  rw [List.length_take, List.length_cons]; omega
theorem take20_get {s : Scn} {hist : List Scn} {k : Nat} {x : Scn} (h : ((s :: hist).take 20)[k]? = some x) : k < 20 ∧ ((k = 0 ∧ x = s) ∨ ∃ j, k = j + 1 ∧ hist[j]? = some x) := by
  rw [List.getElem?_take] at h
  split at h
  · next hk =>
    refine ⟨hk, ?_⟩
    cases k with
    | zero => left; simp at h; exact ⟨rfl, h.symm⟩
    | succ j => right; simp at h; exact ⟨j, rfl, by simpa using h⟩
  · cases h
set_option maxHeartbeats 2000000 in
theorem remember_ok {h : Hp} {A nx : Nat} {hist : List Scn} {s : Scn} (hs : sn s ≤ 12) (C : CHist h A nx hist) (N : CSc h 2 s) :
    ∃ h' A' nx', fX1_remember 10 2 h = some h' ∧ CHist h' A' nx' ((s :: hist).take 20) ∧ ∀ k, k ≤ 80 → k ≠ 10 → k ≠ 11 → h'.2 k = h.2 k := by
  obtain ⟨c1, c2, c3, c4, c5, c6, c7, ⟨sc, c8, c9⟩, c10, c11⟩ := C
  have hlen : hist.length ≤ 20 := by omega
  -- what holds behind the call in both cases
  have fin : ∀ (g : Hp) (A' : Nat) (sc' : Nat → Nat), A' ≤ 20 → nx < A' → (A ≤ A') → A' ≤ A + 1 → (A' = A + 1 → nx = A) → g.1 = 80 + 8 * A' → g.2 10 = some (obj 0 [vi hist.length, vi nx, vr 11]) → g.2 11 = some (rar 6 20 sc') → (∀ j, j < 20 → sc' j = if j < A' then 81 + 8 * j else 0) → (∀ j, j < A' → ∃ n m P W X K k f, isSq g (81 + 8 * j) n m P W X K k f) → (∀ k, k ≤ h.1 → k ≠ 11 → g.2 k = h.2 k) →
      ∃ h' A' nx', fX1_remember_28 10 2 g = some h' ∧ CHist h' A' nx' ((s :: hist).take 20) ∧ ∀ k, k ≤ 80 → k ≠ 10 → k ≠ 11 → h'.2 k = h.2 k := by
    intro g A' sc' a1 a2 a3 a4 a4b a5 a6 a7 a8 a9 a10
    have N' : CSc g 2 s := N.ag (fun j hj => by obtain ⟨z1, z2⟩ := hj; exact a10 j (by omega) (by omega))
    obtain ⟨h', e, d1, d2, d3, d4⟩ := rem28_ok hs a1 a2 hlen a6 a7 a8 (a9 nx a2) N'
    refine ⟨h', A', if 20 ≤ nx + 1 then 0 else nx + 1, e, ⟨d3.trans a5, a1, ?_, ?_, ?_, ?_, ?_, ⟨sc', (d4 11 (by omega) (by intro z; obtain ⟨z, -⟩ := z; omega)).trans a7, a8⟩, ?_, ?_⟩, fun k hk k1 k2 => (d4 k k1 (by intro z; obtain ⟨z, -⟩ := z; omega)).trans (a10 k (by omega) k2)⟩
    · split <;> omega
    · split <;> omega
    · rw [take20_len s hist hlen]; omega
    · intro hz; rw [take20_len s hist hlen]
      have : hist.length ≤ nx := c6 (by omega)
      split <;> omega
    · rw [d2, take20_len s hist hlen]
    · intro j hj
      by_cases ej : j = nx
      · subst ej
        obtain ⟨P, W, X, K, f, z, -⟩ := d1
        exact ⟨_, _, _, _, _, _, _, _, z⟩
      · obtain ⟨n, m, P, W, X, K, k, f, z⟩ := a9 j hj
        exact ⟨n, m, P, W, X, K, k, f, z.ag (fun l hl => d4 l (by obtain ⟨z1, z2⟩ := hl; omega) (by intro y; obtain ⟨y1, y2⟩ := y; obtain ⟨z1, z2⟩ := hl; omega))⟩
    · intro k x hk
      obtain ⟨k20, hk⟩ := take20_get hk
      have e20 : ((if 20 ≤ nx + 1 then 0 else nx + 1) + 19 - k) % 20 = (nx + 20 - k) % 20 := by split <;> omega
      rw [e20]
      rcases hk with ⟨rfl, rfl⟩ | ⟨j, rfl, hj⟩
      · have : (nx + 20 - 0) % 20 = nx := by omega
        rw [this]; exact d1
      · have hjl : j < hist.length := (List.getElem?_eq_some_iff.mp hj).1
        have e2 : (nx + 20 - (j + 1)) % 20 = (nx + 19 - j) % 20 := by omega
        rw [e2]
        have hne : (nx + 19 - j) % 20 ≠ nx := by omega
        have hlt : (nx + 19 - j) % 20 < A := by
          by_cases hA : A < 20
          · have := c6 hA; omega
          · omega
        refine (c11 j x hj).ag (fun l hl => ?_)
        obtain ⟨z1, z2⟩ := hl
        rw [d4 l (by omega) (by intro y; obtain ⟨y1, y2⟩ := y; omega), a10 l (by omega) (by omega)]
  unfold fX1_remember
  rw [gR 2 c7 rfl, ob, gI 1 c7 rfl, ob, rld_of nx c8 rfl (by omega), ob, c9 nx (by omega)]
  by_cases hn : nx < A
  · rw [if_pos hn, if_neg (by omega)]
    exact fin h A sc c2 hn (Nat.le_refl _) (by omega) (by omega) c1 c7 c8 c9 c10 (fun k _ _ => rfl)
  · have hnA : nx = A := by omega
    rw [if_neg hn, if_pos rfl, ob, ob, cr (by omega), ob, cr (by omega), ob, nO, ob]
    simp only []
    have f0 : (hadd h (obj 6 [vi 0, vr 0, vr 0, vr 0, vr 0, vr 0])).2 (h.1 + 1) = some (obj 6 [vi 0, vr 0, vr 0, vr 0, vr 0, vr 0]) := hadd_eq
    obtain ⟨g, e, ⟨k1, k2⟩, S⟩ := scInit_ok (h := hadd h (obj 6 [vi 0, vr 0, vr 0, vr 0, vr 0, vr 0])) (a := h.1 + 1) rfl f0
    rw [hadd_1] at k1 k2
    rw [co f0, ob, cr (by rw [hadd_1]; omega), ob, cr (by rw [hadd_1]; omega), ob, cr (by rw [hadd_1]; omega), ob, cr (by rw [hadd_1]; omega), ob, e, ob]
    have gk : ∀ k, k ≤ h.1 → g.2 k = h.2 k := fun k hk => (k2 k (by omega) (by omega)).trans (hadd_ne (by omega))
    have q0 : g.2 (h.1 + 1) = some (obj 6 [vi 1, vr (h.1 + 1 + 1), vr (h.1 + 1 + 2), vr (h.1 + 1 + 3), vr (h.1 + 1 + 4), vr (h.1 + 1 + 5)]) := S.1
    have g11 : g.2 11 = some (rar 6 20 sc) := (gk 11 (by omega)).trans c8
    have est : rst g 6 11 (nx : Int) (h.1 + 1) = some (hput g 11 (rar 6 20 (ups sc nx (h.1 + 1)))) := by
      unfold rst; rw [g11, q0]; simp only [Int.toNat_natCast]; rw [if_pos ⟨trivial, trivial, by omega, by omega⟩]
    rw [est, ob]
    refine fin _ (A + 1) (ups sc nx (h.1 + 1)) (by omega) (by omega) (by omega) (by omega) (fun _ => hnA) (by rw [hput_1, k1]; omega) ((hput_ne (by omega)).trans ((gk 10 (by omega)).trans c7)) hput_eq ?_ ?_ (fun k hk hk2 => (hput_ne hk2).trans (gk k hk))
    · intro j hj
      rw [ups_at]
      by_cases ej : j = nx
      · subst ej; rw [if_pos rfl, if_pos (by omega)]; omega
      · rw [if_neg ej, c9 j hj]
        by_cases z : j < A
        · rw [if_pos z, if_pos (by omega)]
        · rw [if_neg z, if_neg (by omega)]
    · intro j hj
      by_cases ej : j = A
      · subst ej
        have e81 : 81 + 8 * j = h.1 + 1 := by omega
        rw [e81]
        exact ⟨_, _, _, _, _, _, _, _, S.ag (fun l hl => hput_ne (by obtain ⟨z1, z2⟩ := hl; omega))⟩
      · obtain ⟨n, m, P, W, X, K, k, f, z⟩ := c10 j (by omega)
        exact ⟨n, m, P, W, X, K, k, f, z.ag (fun l hl => by obtain ⟨z1, z2⟩ := hl; rw [hput_ne (by omega), gk l (by omega)])⟩
set_option maxHeartbeats 2000000 in
theorem bringBack_ok {h : Hp} {A nx : Nat} {hist : List Scn} {s s0 : Scn} (hs : sn s ≤ 12) (C : CHist h A nx (s :: hist)) (N : CSc h 2 s0) :
    ∃ h' nx', fX1_bringBack 10 2 h = some h' ∧ CHist h' A nx' hist ∧ CSc h' 2 s ∧ ∀ k, k ≤ 80 → k ≠ 10 → ¬ scs 2 k → h'.2 k = h.2 k := by
  obtain ⟨c1, c2, c3, c4, c5, c6, c7, ⟨sc, c8, c9⟩, c10, c11⟩ := C
  have hlen : (s :: hist).length = hist.length + 1 := List.length_cons
  rw [hlen] at c5 c6 c7
  have hsl := c11 0 s rfl
  have fin : ∀ z : Nat, z = (nx + 19) % 20 → ∃ h' nx', fX1_bringBack_18 10 2 (z : Int) h = some h' ∧ CHist h' A nx' hist ∧ CSc h' 2 s ∧ ∀ k, k ≤ 80 → k ≠ 10 → ¬ scs 2 k → h'.2 k = h.2 k := by
    intro z hz
    have e0 : (nx + 19 - 0) % 20 = z := by omega
    rw [e0] at hsl
    have hzA : z < A := by
      by_cases hA : A < 20
      · have := c6 hA; omega
      · omega
    have esc : sc z = 81 + 8 * z := by rw [c9 z (by omega), if_pos hzA]
    obtain ⟨P, W, X, K, f, N0, -⟩ := N
    obtain ⟨h1, e1, C1, F1⟩ := scCopyS hs N0 hsl (by omega)
    have n10 : ¬ scs 2 10 := by intro y; obtain ⟨y1, y2⟩ := y; omega
    have o1 : h1.2 10 = some (obj 0 [vi ((hist.length + 1 : Nat) : Int), vi nx, vr 11]) := (F1.2 10 n10).trans c7
    unfold fX1_bringBack_18
    rw [gI 0 c7 rfl, ob, if_neg (by omega), gR 2 c7 rfl, ob, rld_of z c8 rfl (by omega), ob, esc, if_neg (by omega), ob, rld_of z c8 rfl (by omega), ob, esc, co N0.1, ob, e1, ob, pV (fs' := [vi ((hist.length + 1 : Nat) : Int), vi z, vr 11]) 1 o1 (by simp) rfl, ob, gI 0 hput_eq rfl, ob, c32_n (by omega) (by omega), ob, pV (fs' := [vi (((hist.length + 1 : Nat) : Int) - 1), vi z, vr 11]) 0 hput_eq (by simp) rfl, ob, hput_hput]
    have kp : ∀ k, k ≠ 10 → ¬ scs 2 k → (hput h1 10 (obj 0 [vi (((hist.length + 1 : Nat) : Int) - 1), vi z, vr 11])).2 k = h.2 k := fun k k1 k2 => (hput_ne k1).trans (F1.2 k k2)
    refine ⟨_, z, rfl, ⟨F1.1.trans c1, c2, by omega, by omega, by omega, ?_, ?_, ⟨sc, (kp 11 (by omega) (by intro y; obtain ⟨y1, y2⟩ := y; omega)).trans c8, c9⟩, ?_, ?_⟩, C1.ag (fun l hl => hput_ne (by obtain ⟨y1, y2⟩ := hl; omega)), fun k _ k1 k2 => kp k k1 k2⟩
    · intro hA; have := c6 hA; omega
    · rw [hput_eq]
      have : ((hist.length + 1 : Nat) : Int) - 1 = (hist.length : Int) := by omega
      rw [this]
    · intro j hj
      obtain ⟨n, m, P, W, X, K, k, f, y⟩ := c10 j hj
      exact ⟨n, m, P, W, X, K, k, f, y.ag (fun l hl => kp l (by obtain ⟨z1, z2⟩ := hl; omega) (by intro y; obtain ⟨y1, y2⟩ := y; obtain ⟨z1, z2⟩ := hl; omega))⟩
    · intro k x hk
      have hkl : k < hist.length := (List.getElem?_eq_some_iff.mp hk).1
      have e2 : (z + 19 - k) % 20 = (nx + 19 - (k + 1)) % 20 := by omega
      rw [e2]
      refine (c11 (k + 1) x (by simpa using hk)).ag (fun l hl => ?_)
      obtain ⟨z1, z2⟩ := hl
      exact kp l (by omega) (by intro y; obtain ⟨y1, y2⟩ := y; omega)
  unfold fX1_bringBack
  rw [gI 1 c7 rfl, ob]
  by_cases hn : nx = 0
  · rw [if_pos (by omega)]
    exact fin 19 (by omega)
  · rw [if_neg (by omega), ob, c32_n (by omega) (by omega), ob]
    have := fin (nx - 1) (by omega)
    have e3 : ((nx - 1 : Nat) : Int) = (nx : Int) - 1 := by omega
    rw [e3] at this
    exact this
