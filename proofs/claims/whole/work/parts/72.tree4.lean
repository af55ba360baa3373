/-! the reference's tree -/
/-- the height so far, over pairs of things ahead of (a, b) -/
def HP (kd : Nat) (W : Nat → Int) (n : Nat) (nm : Nat → Int) (p q : Int) (a b : Nat) (v : Int) : Prop :=
  (v = -1 ∧ ∀ u w, u < n → w < n → bef u w a b → ¬ (nm u = p ∧ nm w = q)) ∨ (0 ≤ v ∧ (∃ u w, u < n ∧ w < n ∧ bef u w a b ∧ nm u = p ∧ nm w = q ∧ v = W (12 * u + w)) ∧ ∀ u w, u < n → w < n → bef u w a b → nm u = p → nm w = q → nb kd v (W (12 * u + w)))
theorem HP.mv {kd : Nat} {W : Nat → Int} {n : Nat} {nm : Nat → Int} {p q : Int} {a b a' b' : Nat} {v : Int} (h : HP kd W n nm p q a b v) (e : ∀ u w, u < n → w < n → nm u = p → nm w = q → (bef u w a b ↔ bef u w a' b')) : HP kd W n nm p q a' b' v := by
  rcases h with ⟨h1, h2⟩ | ⟨h0, ⟨u, w, hu, hw, h1, h2, h3, h4⟩, h5⟩
  · exact Or.inl ⟨h1, fun u w hu hw hb z => h2 u w hu hw ((e u w hu hw z.1 z.2).mpr hb) z⟩
  · exact Or.inr ⟨h0, ⟨u, w, hu, hw, (e u w hu hw h2 h3).mp h1, h2, h3, h4⟩, fun u' w' hu' hw' hb e1 e2 => h5 u' w' hu' hw' ((e u' w' hu' hw' e1 e2).mpr hb) e1 e2⟩
theorem HP.hit {kd : Nat} {W : Nat → Int} {n : Nat} {nm : Nat → Int} {p q : Int} {a b : Nat} {v : Int} (hn : n ≤ 12) (hW : Wok W) (h : HP kd W n nm p q a b v) (ha : a < n) (hb : b < n) (e1 : nm a = p) (e2 : nm b = q) : HP kd W n nm p q a (b + 1) (if v = -1 then W (12 * a + b) else mm kd v (W (12 * a + b))) := by
  have hwb := hW (12 * a + b) (by omega)
  rcases h with ⟨h1, h2⟩ | ⟨h0, ⟨u, w, hu, hw, h1, h2, h3, h4⟩, h5⟩
  · rw [if_pos h1]
    refine Or.inr ⟨hwb.1, ⟨a, b, ha, hb, bef_s.mpr (Or.inr ⟨rfl, rfl⟩), e1, e2, rfl⟩, fun u w hu hw hb' f1 f2 => ?_⟩
    rcases bef_s.mp hb' with z | ⟨rfl, rfl⟩
    · exact absurd ⟨f1, f2⟩ (h2 u w hu hw z)
    · unfold nb; split <;> exact Int.le_refl _
  · rw [if_neg (by omega)]
    refine Or.inr ⟨?_, ?_, fun u' w' hu' hw' hb' f1 f2 => ?_⟩
    · unfold mm; split <;> omega
    · rcases mm_or (kd := kd) v (W (12 * a + b)) with z | z
      · exact ⟨u, w, hu, hw, bef_s.mpr (Or.inl h1), h2, h3, z.trans h4⟩
      · exact ⟨a, b, ha, hb, bef_s.mpr (Or.inr ⟨rfl, rfl⟩), e1, e2, z⟩
    · rcases bef_s.mp hb' with z | ⟨rfl, rfl⟩
      · exact nb_mm1 (h5 u' w' hu' hw' z f1 f2)
      · exact nb_mm2 (by unfold nb; split <;> exact Int.le_refl _)
section
variable {h : Hp} {s : Scn} {hist : List Scn} {x : Aux} {flt : Int}
theorem r_heightOf (R : RI h s hist x flt) (G : GSc s) {kd : Nat} {nm : Nat → Int} (e : h.2 76 = some (arr 0 12 nm)) {p q : Int} (hp : ∃ u, u < sn s ∧ nm u = p) (hq : ∃ u, u < sn s ∧ nm u = q) : ∃ v, fX12_heightOf 62 kd p q h = some (v, h) ∧ HT kd (sW s) (sn s) nm p q v := by
  have hn := G.2.1
  obtain ⟨pa, fp, sm, o⟩ := R.obj
  obtain ⟨Wr, eW, qW⟩ := R.way
  unfold fX12_heightOf
  refine lp (fun N a (v : Int) => fX12_heightOf_6 N 62 kd p q v a h) (fun a v => HP kd (sW s) (sn s) nm p q a 0 v) (sn s) (fun r => ∃ v, r = some (v, h) ∧ HT kd (sW s) (sn s) nm p q v) ?_ ?_ FU 0 (-1) (Nat.zero_le _) (FU_lt (by omega)) (Or.inl ⟨rfl, fun u w _ _ z => by unfold bef at z; omega⟩)
  · intro N a v ha hv
    rw [fX12_heightOf_6, R.nb, if_neg (by show ¬ (sn s : Int) ≤ a; omega)]
    refine lp (fun N' b (v : Int) => fX12_heightOf_18 (fX12_heightOf_6 N) N' 62 kd p q v a b h) (fun b v => HP kd (sW s) (sn s) nm p q a b v) (sn s) (fun r => ∃ v', HP kd (sW s) (sn s) nm p q (a + 1) 0 v' ∧ r = fX12_heightOf_6 N 62 kd p q v' ((a + 1 : Nat) : Int) h) ?_ ?_ FU 0 v (Nat.zero_le _) (FU_lt (by omega)) hv
    · intro N' b v hb hv
      have skip : ¬ (nm a = p ∧ nm b = q) → ∃ v', HP kd (sW s) (sn s) nm p q a (b + 1) v' ∧ fX12_heightOf_101 (fX12_heightOf_6 N) (fX12_heightOf_18 (fX12_heightOf_6 N) N') 62 kd p q v a b h = fX12_heightOf_18 (fX12_heightOf_6 N) N' 62 kd p q v' a ((b + 1 : Nat) : Int) h := by
        intro hne
        refine ⟨v, hv.mv (fun u w hu hw e1 e2 => ?_), ?_⟩
        · have : ¬ (u = a ∧ w = b) := fun z => by obtain ⟨rfl, rfl⟩ := z; exact hne ⟨e1, e2⟩
          rw [bef_s]
          constructor
          · exact Or.inl
          · intro z; exact z.resolve_right this
        · rw [fX12_heightOf_101, c32_n (by omega) (by omega), ob]; rfl
      rw [fX12_heightOf_18, R.nb, if_neg (by show ¬ (sn s : Int) ≤ b; omega), gR 20 o rfl, ob, ald_of a e rfl (by omega), ob]
      by_cases e1 : nm a = p
      · rw [if_pos e1, ob, ald_of b e rfl (by omega), ob]
        by_cases e2 : nm b = q
        · rw [if_pos e2, gR 2 o rfl, ob, ald_of (12 * a + b) eW (by omega) (by omega), ob, qW _ (by omega)]
          have hh := hv.hit hn G.wok ha hb e1 e2
          by_cases z : v = -1
          · rw [if_pos z] at hh
            refine ⟨_, hh, ?_⟩
            rw [if_pos z, fX12_heightOf_99, fX12_heightOf_101, c32_n (by omega) (by omega), ob]; rfl
          · rw [if_neg z] at hh
            refine ⟨_, hh, ?_⟩
            rw [if_neg z]
            unfold mm
            by_cases k0 : kd = 0
            · rw [if_pos (by omega), if_pos k0, fX12_heightOf_99, fX12_heightOf_101, c32_n (by omega) (by omega), ob]; rfl
            · rw [if_neg (by omega), if_neg k0, fX12_heightOf_99, fX12_heightOf_101, c32_n (by omega) (by omega), ob]; rfl
        · rw [if_neg e2]; exact skip (fun z => e2 z.2)
      · rw [if_neg e1]; exact skip (fun z => e1 z.1)
    · intro N' v hv
      rw [fX12_heightOf_18, R.nb, if_pos (by show (sn s : Int) ≤ sn s; omega), fX12_heightOf_107, c32_n (by omega) (by omega), ob]
      exact ⟨v, hv.mv (fun u w hu hw _ _ => by unfold bef; omega), rfl⟩
  · intro N v hv
    rw [fX12_heightOf_6, R.nb, if_pos (by show (sn s : Int) ≤ sn s; omega), fX12_heightOf_113]
    refine ⟨v, rfl, ?_⟩
    have hb : ∀ u w, u < sn s → w < sn s → bef u w (sn s) 0 := fun u w hu hw => Or.inl hu
    rcases hv with ⟨h1, h2⟩ | ⟨h0, ⟨u, w, hu, hw, h1, h2, h3, h4⟩, h5⟩
    · obtain ⟨u, hu, e1⟩ := hp
      obtain ⟨w, hw, e2⟩ := hq
      exact absurd ⟨e1, e2⟩ (h2 u w hu hw (hb u w hu hw))
    · exact ⟨⟨u, w, hu, hw, h2, h3, h4⟩, fun u' w' hu' hw' e1 e2 => h5 u' w' hu' hw' (hb u' w' hu' hw') e1 e2⟩
/-- how far the reference's search has come -/
def RJ (kd : Nat) (W : Nat → Int) (n : Nat) (nm : Nat → Int) (a b : Nat) (z : Int × Int × Int) : Prop := (z.1 = -1 ∧ non n nm a b) ∨ ∃ p q : Nat, z.1 = p ∧ z.2.1 = q ∧ fnd kd W n nm a b p q z.2.2
theorem RJ.mv {kd n : Nat} {W nm : Nat → Int} {a b a' b' : Nat} {z : Int × Int × Int} (h : RJ kd W n nm a b z) (e : ∀ p q, rp n nm p q → (bef p q a b ↔ bef p q a' b')) : RJ kd W n nm a' b' z := by
  rcases h with ⟨h1, h2⟩ | ⟨p, q, h1, h2, h3⟩
  · exact Or.inl ⟨h1, h2.mv e⟩
  · exact Or.inr ⟨p, q, h1, h2, h3.mv e⟩
theorem r_low (R : RI h s hist x flt) (G : GSc s) {kd : Nat} {nm : Nat → Int} (e : h.2 76 = some (arr 0 12 nm)) (hp : ∃ q, rp (sn s) nm 0 q) (K48 : Nat → Int → Hp → Option (Int × Hp)) : ∃ (p q : Nat) (v : Int), fX12_tree_71 K48 FU 62 kd (-1) (-1) 0 0 h = fX12_tree_170 K48 62 kd p q v h ∧ isLow kd (sW s) (sn s) nm p q v := by
  have hn := G.2.1
  obtain ⟨pa, fp, sm, o⟩ := R.obj
  refine lp (fun N a (z : Int × Int × Int) => fX12_tree_71 K48 N 62 kd z.1 z.2.1 z.2.2 a h) (fun a z => RJ kd (sW s) (sn s) nm a (a + 1) z) (sn s) (fun r => ∃ (p q : Nat) (v : Int), r = fX12_tree_170 K48 62 kd p q v h ∧ isLow kd (sW s) (sn s) nm p q v) ?_ ?_ FU 0 (-1, -1, 0) (Nat.zero_le _) (FU_lt (by omega)) (Or.inl ⟨rfl, fun p q z y => by obtain ⟨y1, -⟩ := z; unfold bef at y; omega⟩)
  · intro N a z ha hz
    show ∃ s', _ ∧ fX12_tree_71 K48 (N + 1) 62 kd z.1 z.2.1 z.2.2 a h = _
    rw [fX12_tree_71, R.nb, if_neg (by show ¬ (sn s : Int) ≤ a; omega), c32_n (by omega) (by omega), ob]
    have L : ∃ z' : Int × Int × Int, RJ kd (sW s) (sn s) nm (a + 1) (a + 2) z' ∧ fX12_tree_86 K48 (fX12_tree_71 K48 N) FU 62 kd z.1 z.2.1 z.2.2 a ((a + 1 : Nat) : Int) h = fX12_tree_164 K48 (fX12_tree_71 K48 N) 62 kd z'.1 z'.2.1 z'.2.2 a h := by
      refine lpe (fun N' b (z : Int × Int × Int) => fX12_tree_86 K48 (fX12_tree_71 K48 N) N' 62 kd z.1 z.2.1 z.2.2 a b h) (fun b z => a + 1 ≤ b ∧ RJ kd (sW s) (sn s) nm a b z) (sn s) (fun r => ∃ z' : Int × Int × Int, RJ kd (sW s) (sn s) nm (a + 1) (a + 2) z' ∧ r = fX12_tree_164 K48 (fX12_tree_71 K48 N) 62 kd z'.1 z'.2.1 z'.2.2 a h) ?_ ?_ FU (a + 1) z (by omega) (FU_lt (by omega)) ⟨Nat.le_refl _, hz⟩
      · intro N' b z hb ⟨hab, hz⟩
        show (∃ z', _ ∧ fX12_tree_86 K48 (fX12_tree_71 K48 N) (N' + 1) 62 kd z.1 z.2.1 z.2.2 a b h = _) ∨ ∃ s', _ ∧ fX12_tree_86 K48 (fX12_tree_71 K48 N) (N' + 1) 62 kd z.1 z.2.1 z.2.2 a b h = _
        rw [fX12_tree_86, R.nb, if_neg (by show ¬ (sn s : Int) ≤ b; omega), gR 20 o rfl, ob, ald_of a e rfl (by omega), ob]
        by_cases na : nm a = a
        · right
          rw [if_pos na, ob, ald_of b e rfl (by omega), ob]
          by_cases nb : nm b = b
          · have hr : rp (sn s) nm a b := ⟨by omega, hb, na, nb⟩
            obtain ⟨w, ew, hw⟩ := r_heightOf R G (kd := kd) e (p := a) (q := b) ⟨a, ha, na⟩ ⟨b, hb, nb⟩
            rw [if_pos nb, R.cb, ob, ew, ob]
            rcases hz with ⟨h1, h2⟩ | ⟨p, q, h1, h2, h3⟩
            · refine ⟨(a, b, w), ⟨by omega, Or.inr ⟨a, b, rfl, rfl, h2.hit hr hw⟩⟩, ?_⟩
              rw [if_pos h1, fX12_tree_148, fX12_tree_158, c32_n (by omega) (by omega), ob]; rfl
            · rw [if_neg (by omega)]
              by_cases hlt : w < z.2.2
              · refine ⟨(a, b, w), ⟨by omega, Or.inr ⟨a, b, rfl, rfl, h3.hit hr hw hlt⟩⟩, ?_⟩
                rw [if_pos hlt, fX12_tree_148, fX12_tree_158, c32_n (by omega) (by omega), ob]; rfl
              · refine ⟨z, ⟨by omega, Or.inr ⟨p, q, h1, h2, h3.pass hw (by omega)⟩⟩, ?_⟩
                rw [if_neg hlt, fX12_tree_158, c32_n (by omega) (by omega), ob]; rfl
          · refine ⟨z, ⟨by omega, hz.mv (fun p q y => ?_)⟩, ?_⟩
            · obtain ⟨y1, y2, y3, y4⟩ := y
              have : ¬ (p = a ∧ q = b) := fun y => by obtain ⟨rfl, rfl⟩ := y; exact nb y4
              unfold bef; omega
            · rw [if_neg nb, fX12_tree_158, c32_n (by omega) (by omega), ob]; rfl
        · left
          rw [if_neg na]
          refine ⟨z, hz.mv (fun p q y => ?_), rfl⟩
          obtain ⟨y1, y2, y3, y4⟩ := y
          have : p ≠ a := fun y => by subst y; exact na y3
          unfold bef; omega
      · intro N' z ⟨hab, hz⟩
        show ∃ z', _ ∧ fX12_tree_86 K48 (fX12_tree_71 K48 N) (N' + 1) 62 kd z.1 z.2.1 z.2.2 a (sn s) h = _
        rw [fX12_tree_86, R.nb, if_pos (by show (sn s : Int) ≤ sn s; omega)]
        exact ⟨z, hz.mv (fun p q y => by obtain ⟨y1, y2, y3, y4⟩ := y; unfold bef; omega), rfl⟩
    obtain ⟨z', hz', e2⟩ := L
    refine ⟨z', hz', ?_⟩
    rw [show (a : Int) + 1 = ((a + 1 : Nat) : Int) from rfl, e2, fX12_tree_164, c32_n (by omega) (by omega), ob]; rfl
  · intro N z hz
    show ∃ (p q : Nat) (v : Int), fX12_tree_71 K48 (N + 1) 62 kd z.1 z.2.1 z.2.2 (sn s) h = _ ∧ _
    rw [fX12_tree_71, R.nb, if_pos (by show (sn s : Int) ≤ sn s; omega)]
    rcases hz with ⟨h1, h2⟩ | ⟨p, q, h1, h2, h3⟩
    · obtain ⟨q, hq⟩ := hp
      exact absurd (show bef 0 q (sn s) (sn s + 1) by have := hq.1; have := hq.2.1; unfold bef; omega) (h2 0 q hq)
    · exact ⟨p, q, z.2.2, by rw [h1, h2], h3.low⟩
end
