/-! thirds: the class's cost of taking is the cost by the first thing -/
theorem sum_pairs {n : Nat} {F : Nat → Nat → Int} (hF : ∀ a, a < n → F a a = 0) : sumN n (fun a => sumN n (F a)) = sumN n (fun a => sumN n (fun b => if a < b then F a b + F b a else 0)) := by
  have e1 : sumN n (fun a => sumN n (fun b => if a < b then F a b + F b a else 0)) = sumN n (fun a => sumN n (fun b => if a < b then F a b else 0)) + sumN n (fun a => sumN n (fun b => if a < b then F b a else 0)) := by
    rw [← sumN_add]
    refine sumN_congr (fun a _ => ?_)
    rw [← sumN_add]
    refine sumN_congr (fun b _ => ?_)
    split
    · rfl
    · rfl
  have e2 : sumN n (fun a => sumN n (fun b => if a < b then F b a else 0)) = sumN n (fun b => sumN n (fun a => if a < b then F b a else 0)) := sumN_comm (fun a b => if a < b then F b a else 0)
  rw [e1, e2, ← sumN_add]
  refine sumN_congr (fun a ha => ?_)
  rw [← sumN_add]
  refine sumN_congr (fun b hb => ?_)
  by_cases z : a < b
  · rw [if_pos z, if_neg (by omega), Int.add_zero]
  · rw [if_neg z]
    by_cases y : b < a
    · rw [if_pos y, Int.zero_add]
    · have : a = b := by omega
      subst this
      rw [if_neg y, hF a ha]; rfl
theorem tks_ctk {n : Nat} {X K : Nat → Int} (hn : n ≤ 12) (hX : Xok X K) (sX : Sym n X) (sK : Sym n K) {p T : Nat → Bool} {A B : Nat} (hA : ∀ j, j < n → A.testBit j = (p j && T j)) (hB : ∀ j, j < n → B.testBit j = (p j && !T j)) : tks n X K A B = ctk n X K p T := by
  have e : tks n X K A B = sumN n (fun a => sumN n (fun b => if A.testBit a then tkt X K A B a b else 0)) := by
    unfold tks
    refine sumN_congr (fun a _ => ?_)
    by_cases z : A.testBit a = true
    · rw [if_pos z]; exact sumN_congr (fun b _ => by rw [if_pos z])
    · rw [if_neg z]; exact (sumN_zero (fun b _ => by rw [if_neg z])).symm
  rw [e, sum_pairs]
  · unfold ctk
    refine sumN_congr (fun a ha => sumN_congr (fun b hb => ?_))
    by_cases z : a < b
    · rw [if_pos z, if_pos z]
      have z2 : ¬ b < a := by omega
      unfold tkt ctt
      rw [hA a ha, hA b hb, hB a ha, hB b hb, sX b a hb ha, sK b a hb ha]
      have hk := (hX (12 * a + b) (by omega)).2
      generalize X (12 * a + b) = x at *
      generalize K (12 * a + b) = y at *
      cases p a <;> cases p b <;> cases T a <;> cases T b <;> rcases hk with hk | hk <;> simp [hk, z, z2]
    · rw [if_neg z, if_neg z]
  · intro a ha
    unfold tkt
    rw [hA a ha, hB a ha]
    cases p a <;> cases T a <;> simp
theorem CP_congr {n : Nat} {X K : Nat → Int} {p q : Nat → Bool} (h : ∀ j, j < n → p j = q j) (l : List Nat) : CP n X K p l = CP n X K q l := by
  unfold CP
  refine sumN_congr (fun a ha => sumN_congr (fun b hb => ?_))
  unfold CPt
  rw [h a ha, h b hb]
theorem CP_bd {n : Nat} {X K : Nat → Int} (hn : n ≤ 12) (hX : Xok X K) (p : Nat → Bool) (l : List Nat) : -144000 ≤ CP n X K p l ∧ CP n X K p l ≤ 144000 := by
  have h1 : ∀ a, a < n → -12000 ≤ sumN n (fun b => if a < b then CPt X K p (glf X K l).1 a b else 0) ∧ sumN n (fun b => if a < b then CPt X K p (glf X K l).1 a b else 0) ≤ 12000 := by
    intro a ha
    have := sumN_bd (n := n) (F := fun b => if a < b then CPt X K p (glf X K l).1 a b else 0) (B := 1000) (fun b hb => by
      have := (hX (12 * a + b) (by omega)).1
      show -1000 ≤ (if a < b then CPt X K p (glf X K l).1 a b else 0) ∧ (if a < b then CPt X K p (glf X K l).1 a b else 0) ≤ 1000
      unfold CPt
      repeat' split
      all_goals omega)
    omega
  have h2 := sumN_bd (n := n) (F := fun a => sumN n (fun b => if a < b then CPt X K p (glf X K l).1 a b else 0)) (B := 12000) h1
  unfold CP
  omega
