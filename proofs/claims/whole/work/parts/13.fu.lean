/-- far above what any loop needs -/
theorem FU_ex : ∃ n : Nat, 1000000000000000000000000000000 ≤ n := ⟨1000000000000000000000000000000, Nat.le_refl _⟩
noncomputable def FU : Nat := Classical.choose FU_ex
theorem FU_ge : 1000000000000000000000000000000 ≤ FU := Classical.choose_spec FU_ex
