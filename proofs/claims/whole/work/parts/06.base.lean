/-! the abstract machine's words: values, cells, heaps, and the checks that a decompiled method makes -/
abbrev AV : Type := (Int ⊕ Int) ⊕ (Nat ⊕ Unit)
abbrev vi (z : Int) : AV := .inl (.inl z)
abbrev vl (z : Int) : AV := .inl (.inr z)
abbrev vr (q : Nat) : AV := .inr (.inl q)
abbrev vu : AV := .inr (.inr ())
abbrev AC : Type := (Nat × Nat × (Nat → Int)) ⊕ ((Nat × Nat × (Nat → Nat)) ⊕ (Nat × List AV))
abbrev arr (k n : Nat) (f : Nat → Int) : AC := .inl (k, n, f)
abbrev rar (k n : Nat) (f : Nat → Nat) : AC := .inr (.inl (k, n, f))
abbrev obj (c : Nat) (fs : List AV) : AC := .inr (.inr (c, fs))
abbrev Hp : Type := Nat × (Nat → Option AC)
def hget (h : Hp) (q : Nat) : Option AC := h.2 q
def hput (h : Hp) (q : Nat) (c : AC) : Hp := (h.1, fun k => if k = q then some c else h.2 k)
def hadd (h : Hp) (c : AC) : Hp := (h.1 + 1, fun k => if k = h.1 + 1 then some c else h.2 k)
def ups {α : Type} (f : Nat → α) (i : Nat) (v : α) : Nat → α := fun j => if j = i then v else f j
def R32 (x : Int) : Prop := -2147483648 ≤ x ∧ x ≤ 2147483647
def R64 (x : Int) : Prop := -9223372036854775808 ≤ x ∧ x ≤ 9223372036854775807
def c32 (x : Int) : Option Unit := if -2147483648 ≤ x ∧ x ≤ 2147483647 then some () else none
def c64 (x : Int) : Option Unit := if -9223372036854775808 ≤ x ∧ x ≤ 9223372036854775807 then some () else none
def cnz (x : Int) : Option Unit := if x = 0 then none else some ()
def crf (h : Hp) (q : Nat) : Option Unit := if q ≤ h.1 ∨ 1000000 ≤ q then some () else none
def getI (h : Hp) (ci q k : Nat) : Option Int := match h.2 q with
  | some (.inr (.inr (c, fs))) => if c = ci then (match fs[k]? with | some (.inl (.inl z)) => some z | _ => none) else none
  | _ => none
def getL (h : Hp) (ci q k : Nat) : Option Int := match h.2 q with
  | some (.inr (.inr (c, fs))) => if c = ci then (match fs[k]? with | some (.inl (.inr z)) => some z | _ => none) else none
  | _ => none
def getR (h : Hp) (ci q k : Nat) : Option Nat := match h.2 q with
  | some (.inr (.inr (c, fs))) => if c = ci then (match fs[k]? with | some (.inr (.inl z)) => some z | _ => none) else none
  | _ => none
def putV (h : Hp) (ci q k : Nat) (v : AV) : Option Hp := match h.2 q with
  | some (.inr (.inr (c, fs))) => if c = ci ∧ k < fs.length then some (hput h q (obj c (fs.set k v))) else none
  | _ => none
def ald (h : Hp) (kd q : Nat) (i : Int) : Option Int := match h.2 q with
  | some (.inl (k, n, f)) => if k = kd ∧ 0 ≤ i ∧ i < n then some (f i.toNat) else none
  | _ => none
def ast (h : Hp) (kd q : Nat) (i v : Int) : Option Hp := match h.2 q with
  | some (.inl (k, n, f)) => if k = kd ∧ 0 ≤ i ∧ i < n then some (hput h q (arr k n (ups f i.toNat v))) else none
  | _ => none
def aln (h : Hp) (kd q : Nat) : Option Int := match h.2 q with
  | some (.inl (k, n, _)) => if k = kd then some (n : Int) else none
  | _ => none
def rld (h : Hp) (ci q : Nat) (i : Int) : Option Nat := match h.2 q with
  | some (.inr (.inl (c, n, f))) => if c = ci ∧ 0 ≤ i ∧ i < n then some (f i.toNat) else none
  | _ => none
def rst (h : Hp) (ci q : Nat) (i : Int) (v : Nat) : Option Hp := match h.2 q, h.2 v with
  | some (.inr (.inl (c, n, f))), some (.inr (.inr (c2, _))) => if c = ci ∧ c2 = ci ∧ 0 ≤ i ∧ i < n then some (hput h q (rar c n (ups f i.toNat v))) else none
  | _, _ => none
/-- System.arraycopy of int rows -/
def cpyI (h : Hp) (q1 : Nat) (i1 : Int) (q2 : Nat) (i2 n : Int) : Option Hp := match h.2 q1, h.2 q2 with
  | some (.inl (k1, n1, f)), some (.inl (k2, n2, g)) => if k1 = 0 ∧ k2 = 0 ∧ 0 ≤ i1 ∧ 0 ≤ i2 ∧ 0 ≤ n ∧ i1 + n ≤ n1 ∧ i2 + n ≤ n2 ∧ n ≤ 2147483647 then some (hput h q2 (arr 0 n2 (fun k => if i2.toNat ≤ k ∧ k < i2.toNat + n.toNat then f (i1.toNat + (k - i2.toNat)) else g k))) else none
  | _, _ => none
/-- the bench's own static row: how many orders of 0 .. 7 things -/
def ordN (j : Nat) : Int := match j with | 0 => 1 | 1 => 1 | 2 => 2 | 3 => 6 | 4 => 24 | 5 => 120 | 6 => 720 | _ => 5040
def ldO (i : Int) : Option Int := if 0 ≤ i ∧ i < 8 then some (ordN i.toNat) else none
def ldS (L : Nat) (xs : Nat → Int32) (i : Int) : Option Int := if 0 ≤ i ∧ i < L then some (xs i.toNat).toInt else none
-- numbers: what the machine's own operations are on whole numbers
def bAnd (x y : Int) : Int := (Int32.ofInt x &&& Int32.ofInt y).toInt
def bOr (x y : Int) : Int := (Int32.ofInt x ||| Int32.ofInt y).toInt
def bXor (x y : Int) : Int := (Int32.ofInt x ^^^ Int32.ofInt y).toInt
def bShl (x y : Int) : Int := (Int32.ofInt x <<< (Int32.ofInt y &&& 31)).toInt
def bShr (x y : Int) : Int := (Int32.ofInt x >>> (Int32.ofInt y &&& 31)).toInt
def bUsh (x y : Int) : Int := ((Int32.ofInt x).toUInt32 >>> ((Int32.ofInt y).toUInt32 &&& Int32.toUInt32 31)).toInt32.toInt
def bDiv (x y : Int) : Int := (Int32.ofInt x / Int32.ofInt y).toInt
def bRem (x y : Int) : Int := (Int32.ofInt x - Int32.ofInt x / Int32.ofInt y * Int32.ofInt y).toInt
def w32 (x : Int) : Int := (Int32.ofInt x).toInt
def w8 (x : Int) : Int := (Int32.ofInt x).toInt8.toInt32.toInt
def w16 (x : Int) : Int := (Int32.ofInt x).toInt16.toInt32.toInt
def lAnd (x y : Int) : Int := (Int64.ofInt x &&& Int64.ofInt y).toInt
def lOr (x y : Int) : Int := (Int64.ofInt x ||| Int64.ofInt y).toInt
def lShl (x y : Int) : Int := (Int64.ofInt x <<< ((Int32.ofInt y).toInt64 &&& 63)).toInt
def lShr (x y : Int) : Int := (Int64.ofInt x >>> ((Int32.ofInt y).toInt64 &&& 63)).toInt
def lDiv (x y : Int) : Int := (Int64.ofInt x / Int64.ofInt y).toInt
def l2w (x : Int) : Int := (Int64.ofInt x).toInt32.toInt
def lCmp (x y : Int) : Int := if x < y then -1 else if x = y then 0 else 1
-- what is in range stands for itself
theorem i32_to {x : Int} (h : R32 x) : (Int32.ofInt x).toInt = x := Int32.toInt_ofInt_of_le (by have := h.1; omega) (by have := h.2; omega)
theorem i64_to {x : Int} (h : R64 x) : (Int64.ofInt x).toInt = x := Int64.toInt_ofInt_of_le (by have := h.1; omega) (by have := h.2; omega)
theorem i32_lt {x y : Int} (hx : R32 x) (hy : R32 y) : Int32.ofInt x < Int32.ofInt y ↔ x < y := by rw [Int32.lt_iff_toInt_lt, i32_to hx, i32_to hy]
theorem i32_le {x y : Int} (hx : R32 x) (hy : R32 y) : Int32.ofInt x ≤ Int32.ofInt y ↔ x ≤ y := by rw [Int32.le_iff_toInt_le, i32_to hx, i32_to hy]
theorem i32_eq {x y : Int} (hx : R32 x) (hy : R32 y) : Int32.ofInt x = Int32.ofInt y ↔ x = y := by rw [← Int32.toInt_inj, i32_to hx, i32_to hy]
theorem i64_lt {x y : Int} (hx : R64 x) (hy : R64 y) : Int64.ofInt x < Int64.ofInt y ↔ x < y := by rw [Int64.lt_iff_toInt_lt, i64_to hx, i64_to hy]
theorem i64_eq {x y : Int} (hx : R64 x) (hy : R64 y) : Int64.ofInt x = Int64.ofInt y ↔ x = y := by rw [← Int64.toInt_inj, i64_to hx, i64_to hy]
theorem R32_to (x : Int32) : R32 x.toInt := ⟨by have := x.le_toInt; omega, by have := x.toInt_lt; omega⟩
theorem R64_to (x : Int64) : R64 x.toInt := ⟨by have := x.le_toInt; omega, by have := x.toInt_lt; omega⟩
theorem R32_l {x : Int} (h : R32 x) : R64 x := ⟨by have := h.1; omega, by have := h.2; omega⟩
theorem c32_R {x : Int} (h : c32 x = some ()) : R32 x := by unfold c32 at h; split at h <;> simp_all [R32]
theorem c64_R {x : Int} (h : c64 x = some ()) : R64 x := by unfold c64 at h; split at h <;> simp_all [R64]
theorem cnz_R {x : Int} (h : cnz x = some ()) : x ≠ 0 := by unfold cnz at h; split at h <;> simp_all
theorem crf_R {h : Hp} {q : Nat} (e : crf h q = some ()) : q ≤ h.1 ∨ 1000000 ≤ q := by unfold crf at e; split at e <;> simp_all
theorem c32_ok {x : Int} (h : R32 x) : c32 x = some () := if_pos h
theorem c64_ok {x : Int} (h : R64 x) : c64 x = some () := if_pos h
theorem i32_nz {x : Int} (hx : R32 x) : Int32.ofInt x = 0 ↔ x = 0 := by
  have := i32_eq hx (y := 0) ⟨by decide, by decide⟩
  rwa [show Int32.ofInt 0 = 0 from rfl] at this
theorem i32_toL {x : Int} (h : R32 x) : (Int32.ofInt x).toInt64 = Int64.ofInt x := by
  rw [← Int64.toInt_inj, i64_to (R32_l h), Int32.toInt_toInt64, i32_to h]
theorem i32_clamp {x : Int} (h : R32 x) : (Int32.ofInt x).toNatClampNeg = x.toNat := by
  show (Int32.ofInt x).toInt.toNat = _
  rw [i32_to h]
-- inversions of the checks
theorem getI_inv {h : Hp} {ci q k : Nat} {z : Int} (e : getI h ci q k = some z) : ∃ fs, h.2 q = some (obj ci fs) ∧ fs[k]? = some (vi z) := by
  unfold getI at e
  split at e
  · next c fs he =>
    split at e
    · next hc => subst hc; split at e <;> simp_all
    · cases e
  · cases e
theorem getL_inv {h : Hp} {ci q k : Nat} {z : Int} (e : getL h ci q k = some z) : ∃ fs, h.2 q = some (obj ci fs) ∧ fs[k]? = some (vl z) := by
  unfold getL at e
  split at e
  · next c fs he =>
    split at e
    · next hc => subst hc; split at e <;> simp_all
    · cases e
  · cases e
theorem getR_inv {h : Hp} {ci q k : Nat} {z : Nat} (e : getR h ci q k = some z) : ∃ fs, h.2 q = some (obj ci fs) ∧ fs[k]? = some (vr z) := by
  unfold getR at e
  split at e
  · next c fs he =>
    split at e
    · next hc => subst hc; split at e <;> simp_all
    · cases e
  · cases e
theorem putV_inv {h h' : Hp} {ci q k : Nat} {v : AV} (e : putV h ci q k v = some h') : ∃ fs, h.2 q = some (obj ci fs) ∧ k < fs.length ∧ h' = hput h q (obj ci (fs.set k v)) := by
  unfold putV at e
  split at e
  · next c fs he =>
    split at e
    · next hc => obtain ⟨hc1, hc2⟩ := hc; subst hc1; cases e; exact ⟨fs, he, hc2, rfl⟩
    · cases e
  · cases e
theorem ald_inv {h : Hp} {kd q : Nat} {i z : Int} (e : ald h kd q i = some z) : ∃ n f, h.2 q = some (arr kd n f) ∧ 0 ≤ i ∧ i < n ∧ z = f i.toNat := by
  unfold ald at e
  split at e
  · next c n f he =>
    split at e
    · next hc => obtain ⟨hc1, hc2⟩ := hc; subst hc1; cases e; exact ⟨n, f, he, hc2.1, hc2.2, rfl⟩
    · cases e
  · cases e
theorem ast_inv {h h' : Hp} {kd q : Nat} {i v : Int} (e : ast h kd q i v = some h') : ∃ n f, h.2 q = some (arr kd n f) ∧ 0 ≤ i ∧ i < n ∧ h' = hput h q (arr kd n (ups f i.toNat v)) := by
  unfold ast at e
  split at e
  · next c n f he =>
    split at e
    · next hc => obtain ⟨hc1, hc2⟩ := hc; subst hc1; cases e; exact ⟨n, f, he, hc2.1, hc2.2, rfl⟩
    · cases e
  · cases e
theorem aln_inv {h : Hp} {kd q : Nat} {z : Int} (e : aln h kd q = some z) : ∃ n f, h.2 q = some (arr kd n f) ∧ z = (n : Int) := by
  unfold aln at e
  split at e
  · next c n f he =>
    split at e
    · next hc => subst hc; cases e; exact ⟨n, f, he, rfl⟩
    · cases e
  · cases e
theorem rld_inv {h : Hp} {kd q : Nat} {i : Int} {z : Nat} (e : rld h kd q i = some z) : ∃ n f, h.2 q = some (rar kd n f) ∧ 0 ≤ i ∧ i < n ∧ z = f i.toNat := by
  unfold rld at e
  split at e
  · next c n f he =>
    split at e
    · next hc => obtain ⟨hc1, hc2⟩ := hc; subst hc1; cases e; exact ⟨n, f, he, hc2.1, hc2.2, rfl⟩
    · cases e
  · cases e
theorem rst_inv {h h' : Hp} {kd q v : Nat} {i : Int} (e : rst h kd q i v = some h') : ∃ n f fs, h.2 q = some (rar kd n f) ∧ h.2 v = some (obj kd fs) ∧ 0 ≤ i ∧ i < n ∧ h' = hput h q (rar kd n (ups f i.toNat v)) := by
  unfold rst at e
  split at e
  · next c n f c2 fs he he2 =>
    split at e
    · next hc => obtain ⟨hc1, hc2, hc3, hc4⟩ := hc; subst hc1; cases hc2; cases e; exact ⟨n, f, fs, he, he2, hc3, hc4, rfl⟩
    · cases e
  · cases e
theorem cpyI_inv {h h' : Hp} {q1 q2 : Nat} {i1 i2 n : Int} (e : cpyI h q1 i1 q2 i2 n = some h') : ∃ n1 f n2 g, h.2 q1 = some (arr 0 n1 f) ∧ h.2 q2 = some (arr 0 n2 g) ∧ 0 ≤ i1 ∧ 0 ≤ i2 ∧ 0 ≤ n ∧ i1 + n ≤ n1 ∧ i2 + n ≤ n2 ∧ n ≤ 2147483647 ∧ h' = hput h q2 (arr 0 n2 (fun k => if i2.toNat ≤ k ∧ k < i2.toNat + n.toNat then f (i1.toNat + (k - i2.toNat)) else g k)) := by
  unfold cpyI at e
  split at e
  · next c n1 f c2 n2 g he he2 =>
    split at e
    · next hc => obtain ⟨hc1, hc2, hc3⟩ := hc; subst hc1; subst hc2; cases e; exact ⟨n1, f, n2, g, he, he2, hc3.1, hc3.2.1, hc3.2.2.1, hc3.2.2.2.1, hc3.2.2.2.2.1, hc3.2.2.2.2.2, rfl⟩
    · cases e
  · cases e
theorem bs {α β : Type} {x : Option α} {f : α → Option β} {b : β} (h : x.bind f = some b) : ∃ a, x = some a ∧ f a = some b := by
  cases x with
  | none => cases h
  | some a => exact ⟨a, rfl, h⟩
