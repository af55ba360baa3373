/-- a scene: how many things, places, ways, weights, likes, the parting's name -/
abbrev Scn : Type := Nat × (Nat → Int) × (Nat → Int) × (Nat → Int) × (Nat → Int) × (Nat → Int)
abbrev sn (s : Scn) : Nat := s.1
abbrev sP (s : Scn) : Nat → Int := s.2.1
abbrev sW (s : Scn) : Nat → Int := s.2.2.1
abbrev sX (s : Scn) : Nat → Int := s.2.2.2.1
abbrev sK (s : Scn) : Nat → Int := s.2.2.2.2.1
abbrev sf (s : Scn) : Nat → Int := s.2.2.2.2.2
def CSc (h : Hp) (q : Nat) (s : Scn) : Prop := ∃ P W X K f, isSc h q (sn s) P W X K (mx (sf s) (sn s)) f ∧ Eqn 48 P (sP s) ∧ Eqn 144 W (sW s) ∧ Eqn 144 X (sX s) ∧ Eqn 144 K (sK s) ∧ Eqn (sn s) f (sf s)
theorem CSc.fr {S : Nat → Prop} {h h' : Hp} {q : Nat} {s : Scn} (a : Fr S h h') (p : CSc h q s) (hs : ∀ j, scs q j → ¬ S j) : CSc h' q s := by
  obtain ⟨P, W, X, K, f, p0, r⟩ := p
  exact ⟨P, W, X, K, f, isSq.fr a p0 hs, r⟩
/-- agreement on a scene's own cells is enough -/
theorem isSq.ag {h h' : Hp} {q : Nat} {n m k : Int} {P W X K f : Nat → Int} (p : isSq h q n m P W X K k f) (hs : ∀ j, scs q j → h'.2 j = h.2 j) : isSq h' q n m P W X K k f := by
  obtain ⟨p0, p1, p2, p3, p4, p5, p6, g, p7⟩ := p
  exact ⟨(hs _ ⟨by omega, by omega⟩).trans p0, (hs _ ⟨by omega, by omega⟩).trans p1, (hs _ ⟨by omega, by omega⟩).trans p2, (hs _ ⟨by omega, by omega⟩).trans p3, (hs _ ⟨by omega, by omega⟩).trans p4, (hs _ ⟨by omega, by omega⟩).trans p5, (hs _ ⟨by omega, by omega⟩).trans p6, g, (hs _ ⟨by omega, by omega⟩).trans p7⟩
theorem CSc.ag {h h' : Hp} {q : Nat} {s : Scn} (p : CSc h q s) (hs : ∀ j, scs q j → h'.2 j = h.2 j) : CSc h' q s := by
  obtain ⟨P, W, X, K, f, p0, r⟩ := p
  exact ⟨P, W, X, K, f, p0.ag hs, r⟩
def CHist (h : Hp) (A nx : Nat) (hist : List Scn) : Prop :=
  h.1 = 80 + 8 * A ∧ A ≤ 20 ∧ nx ≤ A ∧ nx < 20 ∧ hist.length ≤ A ∧ (A < 20 → hist.length ≤ nx) ∧ h.2 10 = some (obj 0 [vi hist.length, vi nx, vr 11]) ∧ (∃ sc, h.2 11 = some (rar 6 20 sc) ∧ ∀ j, j < 20 → sc j = if j < A then 81 + 8 * j else 0) ∧
  (∀ j, j < A → ∃ n m P W X K k f, isSq h (81 + 8 * j) n m P W X K k f) ∧ ∀ (k : Nat) (s : Scn), hist[k]? = some s → CSc h (81 + 8 * ((nx + 19 - k) % 20)) s
theorem scCopyS {h : Hp} {q q' : Nat} {s : Scn} {n m k : Int} {P W X K f : Nat → Int} (hn : sn s ≤ 12) (S : isSq h q n m P W X K k f) (S' : CSc h q' s) (hd : q + 8 ≤ q' ∨ q' + 8 ≤ q) : ∃ h', fX7_copyFrom q q' h = some h' ∧ CSc h' q s ∧ Fr (scs q) h h' := by
  obtain ⟨P', W', X', K', f', p0, r1, r2, r3, r4, r5⟩ := S'
  obtain ⟨h', P2, W2, X2, K2, f2, e, a, b1, b2, b3, b4, b5, F⟩ := scCopy_ok S p0 hd
  exact ⟨h', e, ⟨P2, W2, X2, K2, f2, a, fun i hi => (b1 i hi).trans (r1 i hi), fun i hi => (b2 i hi).trans (r2 i hi), fun i hi => (b3 i hi).trans (r3 i hi), fun i hi => (b4 i hi).trans (r4 i hi), fun i hi => (b5 i (by omega)).trans (r5 i hi)⟩, F⟩
set_option maxHeartbeats 1000000 in
theorem rem28_ok {g : Hp} {A nx len : Nat} {sc : Nat → Nat} {s : Scn} (hs : sn s ≤ 12) (hA : A ≤ 20) (hnx : nx < A) (hlen : len ≤ 20) (o : g.2 10 = some (obj 0 [vi len, vi nx, vr 11])) (r : g.2 11 = some (rar 6 20 sc)) (hsc : ∀ j, j < 20 → sc j = if j < A then 81 + 8 * j else 0) (hq : ∃ n m P W X K k f, isSq g (81 + 8 * nx) n m P W X K k f) (N : CSc g 2 s) :
    ∃ h', fX1_remember_28 10 2 g = some h' ∧ CSc h' (81 + 8 * nx) s ∧ h'.2 10 = some (obj 0 [vi ((min (len + 1) 20 : Nat) : Int), vi ((if 20 ≤ nx + 1 then 0 else nx + 1 : Nat) : Int), vr 11]) ∧ h'.1 = g.1 ∧ ∀ k, k ≠ 10 → ¬ scs (81 + 8 * nx) k → h'.2 k = g.2 k := by
  obtain ⟨n, m, P, W, X, K, k, f, S⟩ := hq
  have e1 : sc nx = 81 + 8 * nx := by rw [hsc nx (by omega), if_pos hnx]
  obtain ⟨h1, e2, C1, F1⟩ := scCopyS hs S N (by omega)
  have o1 : h1.2 10 = some (obj 0 [vi len, vi nx, vr 11]) := (F1.2 10 (by intro z; obtain ⟨z, -⟩ := z; omega)).trans o
  have r10 : ¬ scs (81 + 8 * nx) 10 := by intro z; obtain ⟨z, -⟩ := z; omega
  have fin : ∀ z : Nat, ∃ h', fX1_remember_63 10 (z : Int) 10 h1 = some h' ∧ CSc h' (81 + 8 * nx) s ∧ h'.2 10 = some (obj 0 [vi ((min (len + 1) 20 : Nat) : Int), vi (z : Int), vr 11]) ∧ h'.1 = g.1 ∧ ∀ k, k ≠ 10 → ¬ scs (81 + 8 * nx) k → h'.2 k = g.2 k := by
    intro z
    unfold fX1_remember_63
    rw [pV (fs' := [vi len, vi z, vr 11]) 1 o1 (by simp) rfl, ob, gI 0 hput_eq rfl, ob, c32_n (by omega) (by omega), ob, pV (fs' := [vi (min ((len : Int) + 1) 20), vi z, vr 11]) 0 hput_eq (by simp) rfl, ob, hput_hput]
    refine ⟨_, rfl, C1.fr (S := fun k => k = 10) (Fr.rf.put rfl) (fun j hj => by obtain ⟨z1, z2⟩ := hj; omega), ?_, F1.1, fun k hk hk2 => (hput_ne hk).trans (F1.2 k hk2)⟩
    rw [hput_eq]
    have : (min ((len : Int) + 1) 20) = ((min (len + 1) 20 : Nat) : Int) := by omega
    rw [this]
  unfold fX1_remember_28
  rw [gR 2 o rfl, ob, gI 1 o rfl, ob, rld_of nx r rfl (by omega), ob, e1, co S.1, ob, e2, ob, gI 1 o1 rfl, ob, c32_n (by omega) (by omega), ob]
  by_cases hw : 20 ≤ nx + 1
  · rw [if_pos (by omega)]
    have := fin 0
    simpa [hw] using this
  · rw [if_neg (by omega), ob, c32_n (by omega) (by omega), ob]
    have := fin (nx + 1)
    rw [if_neg hw]
    exact this
