/-- the sum over all orders of a set, by the first thing -/
theorem OS_first {n : Nat} {X K : Nat → Int} {p : Nat → Bool} {d : Nat} (hd : hct n p = ((d + 1 : Nat) : Int)) {t : Nat} (ht : t < n) (hp : p t = true) {k : Nat} (hk : hct n (fun j => p j && !TkB X K t j) = k) :
    fcl k * OS n d (fun l => CP n X K p (t :: l)) (rmv p t) = fcl k * (fcl d * ctk n X K p (TkB X K t)) + fcl d * OS n k (CP n X K (fun j => p j && !TkB X K t j)) (fun j => p j && !TkB X K t j) := by
  have hc : hct n (rmv p t) = d := by rw [hct_rmv ht hp, hd]; omega
  have tt : TkB X K t t = true := by unfold TkB; simp
  have eq : ∀ j, (rmv p t j && !TkB X K t j) = (p j && !TkB X K t j) := fun j => by
    rw [rmv_at]
    by_cases w : j = t
    · subst w; simp [tt]
    · simp [w]
  have hk' : hct n (fun j => rmv p t j && !TkB X K t j) = k := by rw [← hk]; exact sumN_congr (fun j _ => by simp only [eq])
  have f := OS_filter (n := n) (fun j => !TkB X K t j) d k (CP n X K (fun j => p j && !TkB X K t j)) (rmv p t) hc hk'
  have e1 : OS n d (fun l => CP n X K p (t :: l)) (rmv p t) = OS n d (fun _ => ctk n X K p (TkB X K t)) (rmv p t) + OS n d (fun l => CP n X K (fun j => p j && !TkB X K t j) (l.filter (fun j => !TkB X K t j))) (rmv p t) := by
    rw [← OS_add]
    exact OS_congr d (fun _ _ => rfl) (fun l _ => CP_cons l)
  have e2 : OS n k (CP n X K (fun j => p j && !TkB X K t j)) (fun j => rmv p t j && !TkB X K t j) = OS n k (CP n X K (fun j => p j && !TkB X K t j)) (fun j => p j && !TkB X K t j) := OS_congr k (fun j _ => eq j) (fun _ _ => rfl)
  rw [e2] at f
  rw [e1, Int.mul_add, OS_const d _ _ hc, f]
