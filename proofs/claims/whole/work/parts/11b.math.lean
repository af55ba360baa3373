theorem mx_eq {x y : Int} (hx : R32 x) (hy : R32 y) : (if Int32.ofInt x < Int32.ofInt y then Int32.ofInt y else Int32.ofInt x) = Int32.ofInt (max x y) := by
  by_cases h : x < y
  · rw [if_pos ((i32_lt hx hy).mpr h)]; congr 1; omega
  · rw [if_neg (fun z => h ((i32_lt hx hy).mp z))]; congr 1; omega
theorem mn_eq {x y : Int} (hx : R32 x) (hy : R32 y) : (if Int32.ofInt y < Int32.ofInt x then Int32.ofInt y else Int32.ofInt x) = Int32.ofInt (min x y) := by
  by_cases h : y < x
  · rw [if_pos ((i32_lt hy hx).mpr h)]; congr 1; omega
  · rw [if_neg (fun z => h ((i32_lt hy hx).mp z))]; congr 1; omega
theorem mxl_eq {x y : Int} (hx : R64 x) (hy : R64 y) : (if Int64.ofInt y < Int64.ofInt x then Int64.ofInt x else Int64.ofInt y) = Int64.ofInt (max x y) := by
  by_cases h : y < x
  · rw [if_pos ((i64_lt hy hx).mpr h)]; congr 1; omega
  · rw [if_neg (fun z => h ((i64_lt hy hx).mp z))]; congr 1; omega
theorem ab_eq {x : Int} (hx : R32 x) : (if 0 ≤ Int32.ofInt x then Int32.ofInt x else 0 - Int32.ofInt x) = Int32.ofInt (max x (-x)) := by
  have hz : (0 : Int32) = Int32.ofInt 0 := rfl
  by_cases h : 0 ≤ x
  · rw [if_pos (by rw [hz]; exact (i32_le z32 hx).mpr h)]; congr 1; omega
  · rw [if_neg (by rw [hz]; exact fun z => h ((i32_le z32 hx).mp z)), hz, ← Int32.ofInt_sub]; congr 1; omega
theorem R32_max {x y : Int} (hx : R32 x) (hy : R32 y) : R32 (max x y) := by obtain ⟨a, b⟩ := hx; obtain ⟨c, d⟩ := hy; exact ⟨by omega, by omega⟩
theorem R32_min {x y : Int} (hx : R32 x) (hy : R32 y) : R32 (min x y) := by obtain ⟨a, b⟩ := hx; obtain ⟨c, d⟩ := hy; exact ⟨by omega, by omega⟩
theorem R64_max {x y : Int} (hx : R64 x) (hy : R64 y) : R64 (max x y) := by obtain ⟨a, b⟩ := hx; obtain ⟨c, d⟩ := hy; exact ⟨by omega, by omega⟩
theorem mi_ : Cond.initialized "java/lang/Math" ∈ gtb := gm 67 (by decide +kernel) rfl
theorem st_mmax : Cond.static Lib.Math.max.name ∈ gtb := gm 476 (by decide +kernel) rfl
theorem co_mmax : Cond.code Lib.Math.max.name Lib.Math.max.code 2 (some .int) ∈ gtb := gm 477 (by decide +kernel) rfl
section
variable {L : Nat} {xs : Nat → Int32} {l : Launch} {own : String} {cc : ByteArray} {nL : Nat} {ini : Bool} {d : Nat} {Q : AV → Hp → Prop} {rc rs : Nat} {pc pc' : Nat} {lv lv' : List (Nat × AV)} {st : List AV} {h : Hp}
theorem j_mmax {x y : Int} {ix : Nat} (dg : decode cc pc = .ok (.invokestatic ix, 3)) (hp : pc + 3 = pc') (hlk : Cond.methodLink own ix Lib.Math.max.name ∈ gtb) (hd : 1 ≤ d) (hsum : (st.map catv).sum ≤ 8) (hx : R32 x) (hy : R32 y) (k : J L xs l own cc nL ini d Q rc rs pc' lv (vi (max x y) :: st) h) : J L xs l own cc nL ini d Q rc rs pc lv (vi y :: vi x :: st) h := by
  subst hp
  intro p en R s m args below meth c H locs cells slots TC TS n0 n1 D cA ad ad0 base b t ls Z X hl hR
  obtain ⟨y1, y2, y3, y4, y5, y6, y7, y8, y9, y10⟩ := X.2.1
  refine va_mmax X.1.1 X.1.2.1 (by rw [X.1.2.2.1]; exact hl.1.symm) X.1.2.2.2.1 (X.1.2.2.2.2.1 _ hlk) (X.1.2.2.2.2.1 _ st_mmax) (X.1.2.2.2.2.1 _ mi_) (X.1.2.2.2.2.1 _ co_mmax) (by omega) (by rw [catsum]; omega) (by omega) (by omega) dg ?_
  rw [mx_eq hx hy]
  exact k _ _ _ _ _ _ _ _ _ _ _ _ _ _ _ _ _ _ _ _ _ _ _ _ _ _ X hl hR
end
theorem st_mmin : Cond.static Lib.Math.min.name ∈ gtb := gm 400 (by decide +kernel) rfl
theorem co_mmin : Cond.code Lib.Math.min.name Lib.Math.min.code 2 (some .int) ∈ gtb := gm 401 (by decide +kernel) rfl
section
variable {L : Nat} {xs : Nat → Int32} {l : Launch} {own : String} {cc : ByteArray} {nL : Nat} {ini : Bool} {d : Nat} {Q : AV → Hp → Prop} {rc rs : Nat} {pc pc' : Nat} {lv lv' : List (Nat × AV)} {st : List AV} {h : Hp}
theorem j_mmin {x y : Int} {ix : Nat} (dg : decode cc pc = .ok (.invokestatic ix, 3)) (hp : pc + 3 = pc') (hlk : Cond.methodLink own ix Lib.Math.min.name ∈ gtb) (hd : 1 ≤ d) (hsum : (st.map catv).sum ≤ 8) (hx : R32 x) (hy : R32 y) (k : J L xs l own cc nL ini d Q rc rs pc' lv (vi (min x y) :: st) h) : J L xs l own cc nL ini d Q rc rs pc lv (vi y :: vi x :: st) h := by
  subst hp
  intro p en R s m args below meth c H locs cells slots TC TS n0 n1 D cA ad ad0 base b t ls Z X hl hR
  obtain ⟨y1, y2, y3, y4, y5, y6, y7, y8, y9, y10⟩ := X.2.1
  refine va_mmin X.1.1 X.1.2.1 (by rw [X.1.2.2.1]; exact hl.1.symm) X.1.2.2.2.1 (X.1.2.2.2.2.1 _ hlk) (X.1.2.2.2.2.1 _ st_mmin) (X.1.2.2.2.2.1 _ mi_) (X.1.2.2.2.2.1 _ co_mmin) (by omega) (by rw [catsum]; omega) (by omega) (by omega) dg ?_
  rw [mn_eq hx hy]
  exact k _ _ _ _ _ _ _ _ _ _ _ _ _ _ _ _ _ _ _ _ _ _ _ _ _ _ X hl hR
end
theorem st_mabs : Cond.static Lib.Math.abs.name ∈ gtb := gm 473 (by decide +kernel) rfl
theorem co_mabs : Cond.code Lib.Math.abs.name Lib.Math.abs.code 1 (some .int) ∈ gtb := gm 474 (by decide +kernel) rfl
section
variable {L : Nat} {xs : Nat → Int32} {l : Launch} {own : String} {cc : ByteArray} {nL : Nat} {ini : Bool} {d : Nat} {Q : AV → Hp → Prop} {rc rs : Nat} {pc pc' : Nat} {lv lv' : List (Nat × AV)} {st : List AV} {h : Hp}
theorem j_mabs {x : Int} {ix : Nat} (dg : decode cc pc = .ok (.invokestatic ix, 3)) (hp : pc + 3 = pc') (hlk : Cond.methodLink own ix Lib.Math.abs.name ∈ gtb) (hd : 1 ≤ d) (hsum : (st.map catv).sum ≤ 8) (hx : R32 x) (k : J L xs l own cc nL ini d Q rc rs pc' lv (vi (max x (-x)) :: st) h) : J L xs l own cc nL ini d Q rc rs pc lv (vi x :: st) h := by
  subst hp
  intro p en R s m args below meth c H locs cells slots TC TS n0 n1 D cA ad ad0 base b t ls Z X hl hR
  obtain ⟨y1, y2, y3, y4, y5, y6, y7, y8, y9, y10⟩ := X.2.1
  refine va_mabs X.1.1 X.1.2.1 (by rw [X.1.2.2.1]; exact hl.1.symm) X.1.2.2.2.1 (X.1.2.2.2.2.1 _ hlk) (X.1.2.2.2.2.1 _ st_mabs) (X.1.2.2.2.2.1 _ mi_) (X.1.2.2.2.2.1 _ co_mabs) (by omega) (by rw [catsum]; omega) (by omega) (by omega) dg ?_
  rw [ab_eq hx]
  exact k _ _ _ _ _ _ _ _ _ _ _ _ _ _ _ _ _ _ _ _ _ _ _ _ _ _ X hl hR
end
theorem st_mmaxl : Cond.static Lib.MathLoose.max_long.x ∈ gtb := gm 566 (by decide +kernel) rfl
theorem co_mmaxl : Cond.code Lib.MathLoose.max_long.x Lib.MathLoose.max_long.code 4 (some .long) ∈ gtb := gm 567 (by decide +kernel) rfl
section
variable {L : Nat} {xs : Nat → Int32} {l : Launch} {own : String} {cc : ByteArray} {nL : Nat} {ini : Bool} {d : Nat} {Q : AV → Hp → Prop} {rc rs : Nat} {pc pc' : Nat} {lv lv' : List (Nat × AV)} {st : List AV} {h : Hp}
theorem j_mmaxl {x y : Int} {ix : Nat} (dg : decode cc pc = .ok (.invokestatic ix, 3)) (hp : pc + 3 = pc') (hlk : Cond.methodLink own ix Lib.MathLoose.max_long.x ∈ gtb) (hd : 1 ≤ d) (hsum : (st.map catv).sum ≤ 8) (hx : R64 x) (hy : R64 y) (k : J L xs l own cc nL ini d Q rc rs pc' lv (vl (max x y) :: st) h) : J L xs l own cc nL ini d Q rc rs pc lv (vl y :: vl x :: st) h := by
  subst hp
  intro p en R s m args below meth c H locs cells slots TC TS n0 n1 D cA ad ad0 base b t ls Z X hl hR
  obtain ⟨y1, y2, y3, y4, y5, y6, y7, y8, y9, y10⟩ := X.2.1
  refine va_mmax_long X.1.1 X.1.2.1 (by rw [X.1.2.2.1]; exact hl.1.symm) X.1.2.2.2.1 (X.1.2.2.2.2.1 _ hlk) (X.1.2.2.2.2.1 _ st_mmaxl) (X.1.2.2.2.2.1 _ mi_) (X.1.2.2.2.2.1 _ co_mmaxl) (by omega) (by rw [catsum]; omega) (by omega) (by omega) dg ?_
  rw [mxl_eq hx hy]
  exact k _ _ _ _ _ _ _ _ _ _ _ _ _ _ _ _ _ _ _ _ _ _ _ _ _ _ X hl hR
end
