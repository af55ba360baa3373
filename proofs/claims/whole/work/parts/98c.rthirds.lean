section
variable {h : Hp} {s : Scn} {hist : List Scn} {x : Aux} {flt : Int}
theorem r_thirds (R : RI h s hist x flt) (G : GSc s) (h7 : sn s ≤ 7) : ∃ h', fX12_thirds_23 FU 62 0 h = some (OS (sn s) (sn s) (COl (sn s) (sX s) (sK s)) (fun _ => true), h') ∧ RI h' s hist x flt ∧ Fr (fun k => k = 76 ∨ k = 78 ∨ k = 80) h h' := by
  have hn := G.2.1
  obtain ⟨r1, r2, r3, r4, r5, s1, s2, s3, s4, s5⟩ := R.scr
  refine lp (fun N i (z : Hp) => fX12_thirds_23 N 62 i z) (fun i z => ∃ A, z.2 80 = some (arr 0 12 A) ∧ (∀ q, q < i → A q = q) ∧ RI z s hist x flt ∧ Fr (fun k => k = 80) h z) (sn s) (fun r => ∃ h', r = some (OS (sn s) (sn s) (COl (sn s) (sX s) (sK s)) (fun _ => true), h') ∧ RI h' s hist x flt ∧ Fr (fun k => k = 76 ∨ k = 78 ∨ k = 80) h h') ?_ ?_ FU 0 h (Nat.zero_le _) (FU_lt (by omega)) ⟨r5, s5, fun q hq => by omega, R, Fr.rf⟩
  · intro N i z hi ⟨A, a1, a2, a3, a4⟩
    obtain ⟨pa, fp, sm, o⟩ := a3.obj
    rw [fX12_thirds_23, a3.nb, if_neg (by show ¬ (sn s : Int) ≤ i; omega)]
    simp only []
    rw [gR 24 o rfl, ob, ast_of i a1 rfl (by omega), ob, c32_n (by omega) (by omega), ob]
    refine ⟨_, ⟨_, hput_eq, fun q hq => ?_, a3.pu (by omega) _, a4.put rfl⟩, rfl⟩
    rw [ups_at]
    by_cases w : q = i
    · rw [if_pos w, w]
    · rw [if_neg w]; exact a2 q (by omega)
  · intro N z ⟨A, a1, a2, a3, a4⟩
    obtain ⟨h', A', e1, -, -, R1, F1⟩ := r_orders G h7 (sn s) 20 0 z A (fun q => q) (by omega) (by omega) a3 a1 a2 ⟨fun j hj => hj, fun i j _ _ e => e, fun t ht => ⟨t, ht, rfl⟩⟩
    have e : OS (sn s) (sn s) (fun l => COl (sn s) (sX s) (sK s) (pre (fun q => q) 0 ++ l)) (bhd (fun q => q) 0) = OS (sn s) (sn s) (COl (sn s) (sX s) (sK s)) (fun _ => true) := OS_congr (sn s) (fun t _ => by simp [bhd, pre]) (fun l _ => by simp [pre])
    rw [e] at e1
    rw [fX12_thirds_23, a3.nb, if_pos (by show (sn s : Int) ≤ sn s; omega), fX12_thirds_44]
    simp only []
    rw [a3.cb, ob]
    have e1 : fX12_orders 20 62 0 z = some (OS (sn s) (sn s) (COl (sn s) (sX s) (sK s)) (fun _ => true), h') := e1
    rw [e1, ob]
    exact ⟨h', rfl, R1, (a4.mono (fun k hk => by omega)).tr F1⟩
end
