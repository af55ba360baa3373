/-- far above what any loop needs -/
theorem FU_ex : ∃ n : Nat, 1000000000000000000000000000000 ≤ n := ⟨1000000000000000000000000000000, Nat.le_refl _⟩
noncomputable def FU : Nat := Classical.choose FU_ex
theorem FU_ge : 1000000000000000000000000000000 ≤ FU := Classical.choose_spec FU_ex
def wAdd (x y : Int) : Int := (Int32.ofInt x + Int32.ofInt y).toInt
theorem j_iaddw {L : Nat} {xs : Nat → Int32} {l : Launch} {own : String} {cc : ByteArray} {nL : Nat} {ini : Bool} {d : Nat} {Q : AV → Hp → Prop} {rc rs : Nat} {pc pc' : Nat} {lv : List (Nat × AV)} {st : List AV} {h : Hp} {x y : Int} (dg : decode cc pc = .ok (.iadd, 1)) (hp : pc + 1 = pc') (k : J L xs l own cc nL ini d Q rc rs pc' lv (vi (wAdd x y) :: st) h) : J L xs l own cc nL ini d Q rc rs pc lv (vi y :: vi x :: st) h := by
  subst hp
  intro p e R s m args below meth c H locs cells slots TC TS n0 n1 D cA ad ad0 base b t ls Z X hl hR
  refine lv_iadd X.1.1 X.1.2.1 dg ?_
  have k := k _ _ _ _ _ _ _ _ _ _ _ _ _ _ _ _ _ _ _ _ _ _ _ _ _ _ X hl hR
  simp only [List.map_cons, cv, wAdd, Int32.ofInt_toInt] at k
  exact k
