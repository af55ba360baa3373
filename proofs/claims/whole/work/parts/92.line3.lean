/-! how many bits: what both sides ask alike -/
theorem bc_abs (o1 o2 o3 o4 : Option Unit) (v : Int) (h h0 : Hp) : (o1.bind fun _ => o2.bind fun _ => o3.bind fun _ => o4.bind fun _ => some (v, h)) = ((o1.bind fun _ => o2.bind fun _ => o3.bind fun _ => o4.bind fun _ => some (v, h0)).map Prod.fst).map (fun c => (c, h)) := by
  cases o1 <;> cases o2 <;> cases o3 <;> cases o4 <;> rfl
noncomputable def bcv (a : Int) : Option Int := (fJ6_bitCount_0f7a4 a (0, fun _ => none)).map Prod.fst
theorem bc_gen (a : Int) (h : Hp) : fJ6_bitCount_0f7a4 a h = (bcv a).map (fun c => (c, h)) := by
  unfold bcv fJ6_bitCount_0f7a4
  exact bc_abs _ _ _ _ _ _ _
theorem bcv_some : ∀ M : Nat, M < 2048 → (bcv (M : Int)).isSome = true := by
  unfold bcv fJ6_bitCount_0f7a4
  decide +kernel
theorem bcv_low : ∀ k : Nat, k < 12 → bcv ((2 ^ k - 1 : Nat) : Int) = some (k : Int) := by
  unfold bcv fJ6_bitCount_0f7a4
  decide +kernel
theorem bc_ok {M : Nat} (hM : M < 2048) : ∃ c, bcv (M : Int) = some c ∧ ∀ h, fJ6_bitCount_0f7a4 (M : Int) h = some (c, h) := by
  have := bcv_some M hM
  obtain ⟨c, hc⟩ := Option.isSome_iff_exists.mp this
  exact ⟨c, hc, fun h => by rw [bc_gen, hc]; rfl⟩
