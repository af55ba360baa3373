def CLok (ci : Nat) (C : String) (T : u_T) (N : Nat) (ty : Nat → FieldType) : Prop := vwCl[ci]? = some (C, T, N) ∧ (∀ w ∈ u_ws C T N, w ∈ gtb) ∧ (∀ k, k < N → parseFieldDescriptor (T k).2.2.1 = some (ty k)) ∧ ∀ a, a < N → ∀ b, b < N → a ≠ b → (T a).2.1 ≠ (T b).2.1
def FL (own : String) (ix ci k : Nat) : Prop := ∃ (C : String) (T : u_T) (N : Nat) (ty : Nat → FieldType), CLok ci C T N ty ∧ k < N ∧ Cond.fieldLink own ix (T k).1 (T k).2.1 (T k).2.2.1 ∈ gtb
def FP (own : String) (ix ci k : Nat) (fin : Bool) (tp : FieldType → Prop) : Prop := ∃ (C : String) (T : u_T) (N : Nat) (ty : Nat → FieldType), CLok ci C T N ty ∧ k < N ∧ Cond.fieldLink own ix (T k).1 (T k).2.1 (T k).2.2.1 ∈ gtb ∧ (T k).2.2.2 = fin ∧ tp (ty k) ∧ (fin = true → (T k).1 = own)
def tpI (t : FieldType) : Prop := t = .int
def tpL (t : FieldType) : Prop := t = .long
def tpR (t : FieldType) : Prop := (∃ n, t = .object n) ∨ ∃ u, t = .array u
def avr (n : Nat) : AV → Prop
  | .inr (.inl q) => q ≤ n ∨ 1000000 ≤ q
  | _ => True
def avs (n : Nat) : List AV → Prop
  | [] => True
  | v :: t => avr n v ∧ avs n t
theorem cac_set {n ci k : Nat} {fs : List AV} {v : AV} (hc : cac n (obj ci fs)) (hv : avk n v) : cac n (obj ci (fs.set k v)) := by
  intro j w hj
  rw [List.getElem?_set] at hj
  split at hj
  · split at hj
    · cases hj; exact hv
    · cases hj
  · exact hc j w hj
theorem ce_obj_set (cA ad : Nat → Nat) (q ci k : Nat) (fs : List AV) (v : AV) : ce cA ad q (obj ci (fs.set k v)) = .inr (ci, (fs.map (cv ad)).set k (cv ad v)) := by
  simp only [ce, List.map_set]
theorem i32_nat (n : Nat) : Int32.ofInt (n : Int) = Int32.ofNat n := by
  first | rfl | exact Int32.ofInt_eq_ofNat | simp
theorem cv_ext {n : Nat} {ad ad' : Nat → Nat} (he : ∀ k, k ≤ n ∨ 1000000 ≤ k → ad' k = ad k) {v : AV} (hv : avr n v) : cv ad' v = cv ad v := by
  match v, hv with
  | .inl (.inl z), _ => rfl
  | .inl (.inr z), _ => rfl
  | .inr (.inl q), hv => unfold cv; dsimp only; rw [he q hv]
  | .inr (.inr _), _ => rfl
theorem avk_avr {n : Nat} {v : AV} (h : avk n v) : avr n v := by
  match v, h with
  | .inl (.inl z), _ => trivial
  | .inl (.inr z), _ => trivial
  | .inr (.inl q), h => exact h
  | .inr (.inr _), _ => trivial
theorem cvs_ext {n : Nat} {ad ad' : Nat → Nat} (he : ∀ k, k ≤ n ∨ 1000000 ≤ k → ad' k = ad k) : ∀ {st : List AV}, avs n st → st.map (cv ad') = st.map (cv ad)
  | [], _ => rfl
  | v :: t, h => by rw [List.map_cons, List.map_cons, cv_ext he h.1, cvs_ext he h.2]
theorem lvm_ext {n : Nat} {ad ad' : Nat → Nat} (he : ∀ k, k ≤ n ∨ 1000000 ≤ k → ad' k = ad k) : ∀ {lv : List (Nat × AV)}, avs n (lv.map Prod.snd) → lvm ad' lv = lvm ad lv
  | [], _ => rfl
  | v :: t, h => by
    show (v.1, cv ad' v.2) :: lvm ad' t = (v.1, cv ad v.2) :: lvm ad t
    rw [cv_ext he h.1, lvm_ext he h.2]
theorem ce_ext {n : Nat} {cA cA' ad ad' : Nat → Nat} (he : ∀ k, k ≤ n ∨ 1000000 ≤ k → ad' k = ad k) {k : Nat} (hk : cA' k = cA k) {c : AC} (hc : cac n c) : ce cA' ad' k c = ce cA ad k c := by
  match c, hc with
  | .inl (kd, m, f), _ => unfold ce; dsimp only; rw [hk]
  | .inr (.inl (_, m, f)), hc =>
    unfold ce; dsimp only; rw [hk]
    have : (fun j => if f j = 0 then none else some (ad' (f j))) = fun j => if f j = 0 then none else some (ad (f j)) := by
      funext j; rw [he _ (hc.2 j)]
    rw [this]
  | .inr (.inr (ci, fs)), hc =>
    unfold ce; dsimp only
    have : fs.map (cv ad') = fs.map (cv ad) := by
      apply List.map_congr_left
      intro v hv
      obtain ⟨j, hj⟩ := List.getElem?_of_mem hv
      exact cv_ext he (avk_avr (hc j v hj))
    rw [this]
theorem cac_mono {n n' : Nat} (hn : n ≤ n') {c : AC} (hc : cac n c) : cac n' c := by
  match c, hc with
  | .inl (kd, m, f), hc => exact hc
  | .inr (.inl (_, m, f)), hc => exact ⟨hc.1, fun j => by rcases hc.2 j with z | z <;> omega⟩
  | .inr (.inr (ci, fs)), hc =>
    intro j v hj
    have := hc j v hj
    match v, this with
    | .inl (.inl z), z1 => exact z1
    | .inl (.inr z), z1 => exact z1
    | .inr (.inl q), z1 => rcases z1 with z1 | z1; exact Or.inl (by omega); exact Or.inr z1
    | .inr (.inr _), _ => trivial
theorem WFh_add {h : Hp} {c : AC} (hW : WFh h) (hc : cac (h.1 + 1) c) : WFh (hadd h c) := by
  refine ⟨fun k x hk => ?_, fun k a1 a2 => ?_⟩
  · by_cases he : k = h.1 + 1
    · subst he
      simp only [hadd, if_pos rfl] at hk
      cases hk
      exact ⟨by omega, Nat.le_refl _, hc⟩
    · simp only [hadd, if_neg he] at hk
      obtain ⟨z1, z2, z3⟩ := hW.1 k x hk
      exact ⟨z1, Nat.le_succ_of_le z2, cac_mono (Nat.le_succ _) z3⟩
  · by_cases he : k = h.1 + 1
    · subst he; exact ⟨c, by simp [hadd]⟩
    · obtain ⟨x, hx⟩ := hW.2 k a1 (by have : k ≤ h.1 + 1 := a2; omega)
      exact ⟨x, by simp [hadd, he, hx]⟩
theorem wsl_add {cA ad : Nat → Nat} {h : Hp} {c : AC} (hW : WFh h) (hlim : h.1 + 1 < 1000000) (q cB : Nat) (e : va_E) (he : ce (ups cA (h.1 + 1) cB) (ups ad (h.1 + 1) q) (h.1 + 1) c = e) : wsl cA ad h ++ [(q, e)] = wsl (ups cA (h.1 + 1) cB) (ups ad (h.1 + 1) q) (hadd h c) := by
  unfold wsl
  rw [show (hadd h c).1 = h.1 + 1 from rfl, List.range_succ, List.map_append]
  congr 1
  · apply List.map_congr_left
    intro k hk
    have hk : k < h.1 := List.mem_range.mp hk
    obtain ⟨x, hx⟩ := hW.2 (k + 1) (by omega) (by omega)
    have h1 : (hadd h c).2 (k + 1) = h.2 (k + 1) := by simp [hadd]; omega
    rw [h1, hx]
    have h2 : ups ad (h.1 + 1) q (k + 1) = ad (k + 1) := by simp [ups]; omega
    rw [h2]
    show _ = (ad (k + 1), ce _ _ _ x)
    rw [ce_ext (n := h.1) (cA := cA) (ad := ad) (fun j hj => by simp only [ups]; rw [if_neg (by omega)]) (by simp [ups]; omega) ((hW.1 _ _ hx).2.2)]
    rfl
  · have h1 : (hadd h c).2 (h.1 + 1) = some c := by simp [hadd]
    show [(q, e)] = [(_, _)]
    rw [h1]
    show _ = [(ups ad (h.1 + 1) q (h.1 + 1), ce _ _ _ c)]
    rw [he]
    simp [ups]
theorem WO_add {D : va_G} {cA ad : Nat → Nat} {base b t : Nat} {h : Hp} {s : State} {H H1 : Heap} {c : AC} (q cB : Nat) (hO : WO D cA ad base b t h s H) (hlim : h.1 + 1 < 1000000) (hc : cac (h.1 + 1) c) (ha : aok s cB c) (e : va_E) (he : ce (ups cA (h.1 + 1) cB) (ups ad (h.1 + 1) q) (h.1 + 1) c = e)
    (hP : va_P D vwCl (wsl cA ad h ++ [(q, e)]) H1) (hD : va_D (fun q => base ≤ q) (wsl cA ad h ++ [(q, e)])) : WO D (ups cA (h.1 + 1) cB) (ups ad (h.1 + 1) q) base b t (hadd h c) s H1 := by
  obtain ⟨o1, o2, o3, o4, o5, o6⟩ := hO
  rw [wsl_add o5 hlim q cB e he] at hP hD
  refine ⟨o1, fun k x hk => ?_, hP, hD, WFh_add o5 hc, fun k hk => ?_⟩
  · by_cases hq : k = h.1 + 1
    · subst hq
      simp only [hadd, if_pos rfl] at hk
      cases hk
      simpa [ups] using ha
    · simp only [hadd, if_neg hq] at hk
      simpa [ups, hq] using o2 k x hk
  · have hk : h.1 + 1 < k := hk
    simp only [ups]
    rw [if_neg (by omega)]
    exact o6 k (by omega)
theorem CT_add {L : Nat} {xs : Nat → Int32} {own : String} {cc : ByteArray} {nL : Nat} {ini : Bool} {d rc rs N : Nat} {h : Hp} {p : Program} {R : Room} {s : State} {m : MethodId} {args : Array Value} {meth : Method} {c : Code} {H H1 : Heap} {locs : List Loc} {cells slots TC TS n0 n1 : Nat} {D : va_G} {cA ad ad0 : Nat → Nat} {base b t : Nat} {x : AC} (q cB : Nat)
    (X : CT L xs own cc nL ini d (rc + 1) (rs + N) h p R s m args meth c H locs cells slots TC TS n0 n1 D cA ad ad0 base b t) (hO : WO D (ups cA (h.1 + 1) cB) (ups ad (h.1 + 1) q) base b t (hadd h x) s H1) (hS : va_S (fun q => base ≤ q) s.heap H1 locs) : CT L xs own cc nL ini d rc rs (hadd h x) p R s m args meth c H1 locs (cells + 1) (slots + N) TC TS n0 n1 D (ups cA (h.1 + 1) cB) (ups ad (h.1 + 1) q) ad0 base b t := by
  obtain ⟨x1, ⟨y1, y2, y3, y4, y5, y6, y7, y8, y9, y10⟩, x3, -, -⟩ := X
  refine ⟨x1, ⟨y1, y2, y3, y4, by omega, by omega, Nat.le_succ_of_le y7, by show h.1 + 1 + rc ≤ n1; omega, y9, fun k hk => ?_⟩, x3, hO, hS⟩
  simp only [ups]
  rw [if_neg (by omega)]
  exact y10 k hk
section
variable {L : Nat} {xs : Nat → Int32} {l : Launch} {own : String} {cc : ByteArray} {nL : Nat} {ini : Bool} {d : Nat} {Q : AV → Hp → Prop} {rc rs : Nat} {pc pc' : Nat} {lv lv' : List (Nat × AV)} {st : List AV} {h h' : Hp}
theorem j_getI {ix ci k q : Nat} {z : Int} (dg : decode cc pc = .ok (.getfield ix, 3)) (hp : pc + 3 = pc') (lk : FL own ix ci k) (e : getI h ci q k = some z) (kk : R32 z → J L xs l own cc nL ini d Q rc rs pc' lv (vi z :: st) h) : J L xs l own cc nL ini d Q rc rs pc lv (vr q :: st) h := by
  subst hp
  intro p en R s m args below meth c H locs cells slots TC TS n0 n1 D cA ad ad0 base b t ls Z X hl hR
  obtain ⟨fs, hq, hv⟩ := getI_inv e
  obtain ⟨C, T, N, ty, ⟨c1, c2, c3, c4⟩, hk, hlk⟩ := lk
  have O := X.2.2.2.1
  obtain ⟨h1, h2, h3⟩ := O.2.2.2.2.1.1 q _ hq
  have hz : R32 z := h3 k _ hv
  have hq0 : cv ad (vr q) = .ref (ad q) := if_neg (by omega)
  show W p l en R s m args below meth c H locs cells slots Z (F0 m pc ls (cv ad (vr q) :: st.map (cv ad)))
  rw [hq0]
  refine va_get (D := D) (ci := ci) (C := C) (T := T) (N := N) (fs := fs.map (cv ad)) (v := cv ad (vi z)) X.1.1 X.1.2.1 X.1.2.2.2.2.1 c2 X.1.2.2.2.1 O.1 O.2.2.1 (q - 1) (wsl_at O.2.2.2.2.1 hq) c1 k hk (X.1.2.2.2.2.1 _ hlk) (fun _ z => z) (by rw [List.getElem?_map, hv]; rfl) dg ?_
  exact kk hz _ _ _ _ _ _ _ _ _ _ _ _ _ _ _ _ _ _ _ _ _ _ _ _ _ _ X hl hR
theorem j_getL {ix ci k q : Nat} {z : Int} (dg : decode cc pc = .ok (.getfield ix, 3)) (hp : pc + 3 = pc') (lk : FL own ix ci k) (e : getL h ci q k = some z) (kk : R64 z → J L xs l own cc nL ini d Q rc rs pc' lv (vl z :: st) h) : J L xs l own cc nL ini d Q rc rs pc lv (vr q :: st) h := by
  subst hp
  intro p en R s m args below meth c H locs cells slots TC TS n0 n1 D cA ad ad0 base b t ls Z X hl hR
  obtain ⟨fs, hq, hv⟩ := getL_inv e
  obtain ⟨C, T, N, ty, ⟨c1, c2, c3, c4⟩, hk, hlk⟩ := lk
  have O := X.2.2.2.1
  obtain ⟨h1, h2, h3⟩ := O.2.2.2.2.1.1 q _ hq
  have hz : R64 z := h3 k _ hv
  have hq0 : cv ad (vr q) = .ref (ad q) := if_neg (by omega)
  show W p l en R s m args below meth c H locs cells slots Z (F0 m pc ls (cv ad (vr q) :: st.map (cv ad)))
  rw [hq0]
  refine va_get (D := D) (ci := ci) (C := C) (T := T) (N := N) (fs := fs.map (cv ad)) (v := cv ad (vl z)) X.1.1 X.1.2.1 X.1.2.2.2.2.1 c2 X.1.2.2.2.1 O.1 O.2.2.1 (q - 1) (wsl_at O.2.2.2.2.1 hq) c1 k hk (X.1.2.2.2.2.1 _ hlk) (fun _ z => z) (by rw [List.getElem?_map, hv]; rfl) dg ?_
  exact kk hz _ _ _ _ _ _ _ _ _ _ _ _ _ _ _ _ _ _ _ _ _ _ _ _ _ _ X hl hR
theorem j_getR {ix ci k q : Nat} {z : Nat} (dg : decode cc pc = .ok (.getfield ix, 3)) (hp : pc + 3 = pc') (lk : FL own ix ci k) (e : getR h ci q k = some z) (kk : (z ≤ h.1 ∨ 1000000 ≤ z) → J L xs l own cc nL ini d Q rc rs pc' lv (vr z :: st) h) : J L xs l own cc nL ini d Q rc rs pc lv (vr q :: st) h := by
  subst hp
  intro p en R s m args below meth c H locs cells slots TC TS n0 n1 D cA ad ad0 base b t ls Z X hl hR
  obtain ⟨fs, hq, hv⟩ := getR_inv e
  obtain ⟨C, T, N, ty, ⟨c1, c2, c3, c4⟩, hk, hlk⟩ := lk
  have O := X.2.2.2.1
  obtain ⟨h1, h2, h3⟩ := O.2.2.2.2.1.1 q _ hq
  have hz : (z ≤ h.1 ∨ 1000000 ≤ z) := h3 k _ hv
  have hq0 : cv ad (vr q) = .ref (ad q) := if_neg (by omega)
  show W p l en R s m args below meth c H locs cells slots Z (F0 m pc ls (cv ad (vr q) :: st.map (cv ad)))
  rw [hq0]
  refine va_get (D := D) (ci := ci) (C := C) (T := T) (N := N) (fs := fs.map (cv ad)) (v := cv ad (vr z)) X.1.1 X.1.2.1 X.1.2.2.2.2.1 c2 X.1.2.2.2.1 O.1 O.2.2.1 (q - 1) (wsl_at O.2.2.2.2.1 hq) c1 k hk (X.1.2.2.2.2.1 _ hlk) (fun _ z => z) (by rw [List.getElem?_map, hv]; rfl) dg ?_
  exact kk hz _ _ _ _ _ _ _ _ _ _ _ _ _ _ _ _ _ _ _ _ _ _ _ _ _ _ X hl hR
theorem j_putV {ix ci k q : Nat} {v : AV} {tp : FieldType → Prop} (dg : decode cc pc = .ok (.putfield ix, 3)) (hp : pc + 3 = pc') (lk : FP own ix ci k false tp) (hty : ∀ ty, tp ty → ∀ ad, narrow ty (cv ad v) = cv ad v ∧ fits ty (cv ad v) = true) (hv : avk h.1 v) (e : putV h ci q k v = some h') (kk : J L xs l own cc nL ini d Q rc rs pc' lv st h') : J L xs l own cc nL ini d Q rc rs pc lv (v :: vr q :: st) h := by
  subst hp
  intro p en R s m args below meth c H locs cells slots TC TS n0 n1 D cA ad ad0 base b t ls Z X hl hR
  obtain ⟨fs, hq, hlen, rfl⟩ := putV_inv e
  obtain ⟨C, T, N, ty, ⟨c1, c2, c3, c4⟩, hk, hlk, f2, f3, f4⟩ := lk
  have O := X.2.2.2.1
  obtain ⟨h1, h2, h3⟩ := O.2.2.2.2.1.1 q _ hq
  have hq0 : cv ad (vr q) = .ref (ad q) := if_neg (by omega)
  show W p l en R s m args below meth c H locs cells slots Z (F0 m pc ls (cv ad v :: cv ad (vr q) :: st.map (cv ad)))
  rw [hq0]
  refine va_put (D := D) (ci := ci) (C := C) (T := T) (N := N) (ty := ty k) (fs := fs.map (cv ad)) X.1.1 X.1.2.1 X.1.2.2.2.2.1 c2 ty c3 c4 X.1.2.2.2.1 O.1 O.2.2.1 O.2.2.2.1 X.2.2.2.2 (q - 1) (wsl_at O.2.2.2.2.1 hq) c1 k hk (X.1.2.2.2.2.1 _ hlk) (fun _ z => z) f2 (c3 k hk) (hty _ f3 ad).1 (hty _ f3 ad).2 (by rw [List.length_map]; exact hlen) dg (fun H1 locs1 hP1 hD1 hS1 => ?_)
  rw [← ce_obj_set cA ad q] at hP1 hD1
  exact kk _ _ _ _ _ _ _ _ _ _ _ _ _ _ _ _ _ _ _ _ _ _ _ _ _ _ (CT_put X rfl (WO_put _ O hq (cac_set h3 hv) trivial hP1 hD1) hS1) hl hR
theorem j_putF {ix ci k q : Nat} {v : AV} {tp : FieldType → Prop} (dg : decode cc pc = .ok (.putfield ix, 3)) (hp : pc + 3 = pc') (hini : ini = true) (lk : FP own ix ci k true tp) (hty : ∀ ty, tp ty → ∀ ad, narrow ty (cv ad v) = cv ad v ∧ fits ty (cv ad v) = true) (hv : avk h.1 v) (e : putV h ci q k v = some h') (kk : J L xs l own cc nL ini d Q rc rs pc' lv st h') : J L xs l own cc nL ini d Q rc rs pc lv (v :: vr q :: st) h := by
  subst hp
  intro p en R s m args below meth c H locs cells slots TC TS n0 n1 D cA ad ad0 base b t ls Z X hl hR
  obtain ⟨fs, hq, hlen, rfl⟩ := putV_inv e
  obtain ⟨C, T, N, ty, ⟨c1, c2, c3, c4⟩, hk, hlk, f2, f3, f4⟩ := lk
  have O := X.2.2.2.1
  obtain ⟨h1, h2, h3⟩ := O.2.2.2.2.1.1 q _ hq
  have hq0 : cv ad (vr q) = .ref (ad q) := if_neg (by omega)
  show W p l en R s m args below meth c H locs cells slots Z (F0 m pc ls (cv ad v :: cv ad (vr q) :: st.map (cv ad)))
  rw [hq0]
  refine va_putF (D := D) (ci := ci) (C := C) (T := T) (N := N) (ty := ty k) (fs := fs.map (cv ad)) X.1.1 X.1.2.1 X.1.2.2.2.2.1 c2 ty c3 c4 X.1.2.2.2.1 O.1 O.2.2.1 O.2.2.2.1 X.2.2.2.2 (q - 1) (wsl_at O.2.2.2.2.1 hq) c1 k hk (X.1.2.2.2.2.1 _ hlk) (fun _ z => z) f2 (X.1.2.2.2.2.2 hini) (f4 rfl) (c3 k hk) (hty _ f3 ad).1 (hty _ f3 ad).2 (by rw [List.length_map]; exact hlen) dg (fun H1 locs1 hP1 hD1 hS1 => ?_)
  rw [← ce_obj_set cA ad q] at hP1 hD1
  exact kk _ _ _ _ _ _ _ _ _ _ _ _ _ _ _ _ _ _ _ _ _ _ _ _ _ _ (CT_put X rfl (WO_put _ O hq (cac_set h3 hv) trivial hP1 hD1) hS1) hl hR
theorem tI {z : Int} : ∀ ty, tpI ty → ∀ ad, narrow ty (cv ad (vi z)) = cv ad (vi z) ∧ fits ty (cv ad (vi z)) = true := by
  intro ty h ad; cases h; exact ⟨rfl, rfl⟩
theorem tL {z : Int} : ∀ ty, tpL ty → ∀ ad, narrow ty (cv ad (vl z)) = cv ad (vl z) ∧ fits ty (cv ad (vl z)) = true := by
  intro ty h ad; cases h; exact ⟨rfl, rfl⟩
theorem tR {z : Nat} : ∀ ty, tpR ty → ∀ ad, narrow ty (cv ad (vr z)) = cv ad (vr z) ∧ fits ty (cv ad (vr z)) = true := by
  intro ty h ad
  by_cases hz : z = 0
  · subst hz; rcases h with ⟨n, rfl⟩ | ⟨u, rfl⟩ <;> exact ⟨rfl, rfl⟩
  · have h2 : cv ad (vr z) = .ref (ad z) := if_neg hz
    rw [h2]
    rcases h with ⟨n, rfl⟩ | ⟨u, rfl⟩ <;> exact ⟨rfl, rfl⟩
theorem aok_K {D : va_G} {s : State} {cA kd n : Nat} {f : Nat → Int} (hK : va_K D vwCl [] s) (ha : aok s cA (arr kd n f)) : va_K D vwCl [(cA, tyk kd)] s :=
  ⟨hK.1, fun k r hk => by
    match k, hk with
    | 0, hk => cases hk; exact ha.2
    | k + 1, hk => simp at hk⟩
theorem aok_Q {D : va_G} {s : State} {cA ci n : Nat} {f : Nat → Nat} (hK : va_K D vwCl [] s) (ha : aok s cA (rar ci n f)) : va_K D vwCl [(cA, .object (clN ci))] s :=
  ⟨hK.1, fun k r hk => by
    match k, hk with
    | 0, hk => cases hk; exact ha
    | k + 1, hk => simp at hk⟩
theorem vin_of {i : Int} {n : Nat} (h0 : 0 ≤ i) (h1 : i < n) (hn : n < 2147483648) : vp_in (Int32.ofInt i) n ∧ (Int32.ofInt i).toNatClampNeg = i.toNat ∧ R32 i := by
  have hr : R32 i := ⟨by omega, by omega⟩
  exact ⟨vp_in_iff.mpr (by rw [i32_to hr]; exact ⟨h0, h1⟩), i32_clamp hr, hr⟩
theorem j_iald {q : Nat} {i z : Int} (dg : decode cc pc = .ok (.iaload, 1)) (hp : pc + 1 = pc') (e : ald h 0 q i = some z) (kk : R32 z → J L xs l own cc nL ini d Q rc rs pc' lv (vi z :: st) h) : J L xs l own cc nL ini d Q rc rs pc lv (vi i :: vr q :: st) h := by
  subst hp
  intro p en R s m args below meth c H locs cells slots TC TS n0 n1 D cA ad ad0 base b t ls Z X hl hR
  obtain ⟨n, f, hq, hi0, hi1, rfl⟩ := ald_inv e
  have O := X.2.2.2.1
  obtain ⟨h1, h2, h3⟩ := O.2.2.2.2.1.1 q _ hq
  have hz : R32 (f i.toNat) := h3.2 i.toNat
  obtain ⟨v1, v2, v3⟩ := vin_of hi0 hi1 h3.1
  have hq0 : cv ad (vr q) = .ref (ad q) := if_neg (by omega)
  show W p l en R s m args below meth c H locs cells slots Z (F0 m pc ls (cv ad (vi i) :: cv ad (vr q) :: st.map (cv ad)))
  rw [hq0]
  refine va_iald (D := D) (n := n) (f := fun j => Int32.ofInt (f j)) X.1.1 X.1.2.1 (aok_K O.1 (O.2.1 q _ hq)) O.2.2.1 (q - 1) 0 (wsl_at O.2.2.2.2.1 hq) rfl v1 dg ?_
  rw [v2]
  exact kk hz _ _ _ _ _ _ _ _ _ _ _ _ _ _ _ _ _ _ _ _ _ _ _ _ _ _ X hl hR
theorem j_lald {q : Nat} {i z : Int} (dg : decode cc pc = .ok (.laload, 1)) (hp : pc + 1 = pc') (e : ald h 1 q i = some z) (kk : R64 z → J L xs l own cc nL ini d Q rc rs pc' lv (vl z :: st) h) : J L xs l own cc nL ini d Q rc rs pc lv (vi i :: vr q :: st) h := by
  subst hp
  intro p en R s m args below meth c H locs cells slots TC TS n0 n1 D cA ad ad0 base b t ls Z X hl hR
  obtain ⟨n, f, hq, hi0, hi1, rfl⟩ := ald_inv e
  have O := X.2.2.2.1
  obtain ⟨h1, h2, h3⟩ := O.2.2.2.2.1.1 q _ hq
  have hz : R64 (f i.toNat) := h3.2 i.toNat
  obtain ⟨v1, v2, v3⟩ := vin_of hi0 hi1 h3.1
  have hq0 : cv ad (vr q) = .ref (ad q) := if_neg (by omega)
  show W p l en R s m args below meth c H locs cells slots Z (F0 m pc ls (cv ad (vi i) :: cv ad (vr q) :: st.map (cv ad)))
  rw [hq0]
  refine va_lald (D := D) (n := n) (f := fun j => Int64.ofInt (f j)) X.1.1 X.1.2.1 (aok_K O.1 (O.2.1 q _ hq)) O.2.2.1 (q - 1) 0 (wsl_at O.2.2.2.2.1 hq) rfl v1 dg ?_
  rw [v2]
  exact kk hz _ _ _ _ _ _ _ _ _ _ _ _ _ _ _ _ _ _ _ _ _ _ _ _ _ _ X hl hR
theorem j_zald {q : Nat} {i z : Int} (dg : decode cc pc = .ok (.baload, 1)) (hp : pc + 1 = pc') (e : ald h 2 q i = some z) (kk : R32 z → J L xs l own cc nL ini d Q rc rs pc' lv (vi z :: st) h) : J L xs l own cc nL ini d Q rc rs pc lv (vi i :: vr q :: st) h := by
  subst hp
  intro p en R s m args below meth c H locs cells slots TC TS n0 n1 D cA ad ad0 base b t ls Z X hl hR
  obtain ⟨n, f, hq, hi0, hi1, rfl⟩ := ald_inv e
  have O := X.2.2.2.1
  obtain ⟨h1, h2, h3⟩ := O.2.2.2.2.1.1 q _ hq
  have hz : R32 (f i.toNat) := h3.2 i.toNat
  obtain ⟨v1, v2, v3⟩ := vin_of hi0 hi1 h3.1
  have hq0 : cv ad (vr q) = .ref (ad q) := if_neg (by omega)
  show W p l en R s m args below meth c H locs cells slots Z (F0 m pc ls (cv ad (vi i) :: cv ad (vr q) :: st.map (cv ad)))
  rw [hq0]
  refine va_zald (D := D) (n := n) (f := fun j => Int32.ofInt (f j)) X.1.1 X.1.2.1 (aok_K O.1 (O.2.1 q _ hq)) O.2.2.1 (q - 1) 0 (wsl_at O.2.2.2.2.1 hq) rfl v1 dg ?_
  rw [v2]
  exact kk hz _ _ _ _ _ _ _ _ _ _ _ _ _ _ _ _ _ _ _ _ _ _ _ _ _ _ X hl hR
theorem j_iast {q : Nat} {i z : Int} (dg : decode cc pc = .ok (.iastore, 1)) (hp : pc + 1 = pc') (hz : R32 z) (e : ast h 0 q i z = some h') (kk : J L xs l own cc nL ini d Q rc rs pc' lv st h') : J L xs l own cc nL ini d Q rc rs pc lv (vi z :: vi i :: vr q :: st) h := by
  subst hp
  intro p en R s m args below meth c H locs cells slots TC TS n0 n1 D cA ad ad0 base b t ls Z X hl hR
  obtain ⟨n, f, hq, hi0, hi1, rfl⟩ := ast_inv e
  have O := X.2.2.2.1
  obtain ⟨h1, h2, h3⟩ := O.2.2.2.2.1.1 q _ hq
  obtain ⟨v1, v2, v3⟩ := vin_of hi0 hi1 h3.1
  have hq0 : cv ad (vr q) = .ref (ad q) := if_neg (by omega)
  show W p l en R s m args below meth c H locs cells slots Z (F0 m pc ls (cv ad (vi z) :: cv ad (vi i) :: cv ad (vr q) :: st.map (cv ad)))
  rw [hq0]
  refine va_iast (D := D) (n := n) (f := fun j => Int32.ofInt (f j)) X.1.1 X.1.2.1 (aok_K O.1 (O.2.1 q _ hq)) O.2.2.1 O.2.2.2.1 X.2.2.2.2 (q - 1) 0 (wsl_at O.2.2.2.2.1 hq) rfl v1 dg (fun H1 locs1 hP1 hD1 hS1 => ?_)
  rw [v2] at hP1 hD1
  have hf : upd (fun j => Int32.ofInt (f j)) i.toNat (Int32.ofInt z) = fun j => Int32.ofInt (ups f i.toNat z j) := by
    funext j; simp only [upd, ups]; split <;> rfl
  rw [hf] at hP1 hD1
  refine kk _ _ _ _ _ _ _ _ _ _ _ _ _ _ _ _ _ _ _ _ _ _ _ _ _ _ (CT_put X rfl (WO_put (arr 0 n (ups f i.toNat z)) O hq ⟨h3.1, fun j => ?_⟩ (have := O.2.1 q _ hq; this) hP1 hD1) hS1) hl hR
  by_cases hj : j = i.toNat
  · simp only [ups, hj, if_pos]; exact hz
  · simp only [ups, if_neg hj]; exact h3.2 j
theorem j_last {q : Nat} {i z : Int} (dg : decode cc pc = .ok (.lastore, 1)) (hp : pc + 1 = pc') (hz : R64 z) (e : ast h 1 q i z = some h') (kk : J L xs l own cc nL ini d Q rc rs pc' lv st h') : J L xs l own cc nL ini d Q rc rs pc lv (vl z :: vi i :: vr q :: st) h := by
  subst hp
  intro p en R s m args below meth c H locs cells slots TC TS n0 n1 D cA ad ad0 base b t ls Z X hl hR
  obtain ⟨n, f, hq, hi0, hi1, rfl⟩ := ast_inv e
  have O := X.2.2.2.1
  obtain ⟨h1, h2, h3⟩ := O.2.2.2.2.1.1 q _ hq
  obtain ⟨v1, v2, v3⟩ := vin_of hi0 hi1 h3.1
  have hq0 : cv ad (vr q) = .ref (ad q) := if_neg (by omega)
  show W p l en R s m args below meth c H locs cells slots Z (F0 m pc ls (cv ad (vl z) :: cv ad (vi i) :: cv ad (vr q) :: st.map (cv ad)))
  rw [hq0]
  refine va_last (D := D) (n := n) (f := fun j => Int64.ofInt (f j)) X.1.1 X.1.2.1 (aok_K O.1 (O.2.1 q _ hq)) O.2.2.1 O.2.2.2.1 X.2.2.2.2 (q - 1) 0 (wsl_at O.2.2.2.2.1 hq) rfl v1 dg (fun H1 locs1 hP1 hD1 hS1 => ?_)
  rw [v2] at hP1 hD1
  have hf : vp_updL (fun j => Int64.ofInt (f j)) i.toNat (Int64.ofInt z) = fun j => Int64.ofInt (ups f i.toNat z j) := by
    funext j; simp only [vp_updL, ups]; split <;> rfl
  rw [hf] at hP1 hD1
  refine kk _ _ _ _ _ _ _ _ _ _ _ _ _ _ _ _ _ _ _ _ _ _ _ _ _ _ (CT_put X rfl (WO_put (arr 1 n (ups f i.toNat z)) O hq ⟨h3.1, fun j => ?_⟩ (have := O.2.1 q _ hq; this) hP1 hD1) hS1) hl hR
  by_cases hj : j = i.toNat
  · simp only [ups, hj, if_pos]; exact hz
  · simp only [ups, if_neg hj]; exact h3.2 j
theorem j_zast {q : Nat} {i z : Int} (dg : decode cc pc = .ok (.bastore, 1)) (hp : pc + 1 = pc') (hz : R32 z) (hb : z = 0 ∨ z = 1) (e : ast h 2 q i z = some h') (kk : J L xs l own cc nL ini d Q rc rs pc' lv st h') : J L xs l own cc nL ini d Q rc rs pc lv (vi z :: vi i :: vr q :: st) h := by
  subst hp
  intro p en R s m args below meth c H locs cells slots TC TS n0 n1 D cA ad ad0 base b t ls Z X hl hR
  obtain ⟨n, f, hq, hi0, hi1, rfl⟩ := ast_inv e
  have O := X.2.2.2.1
  obtain ⟨h1, h2, h3⟩ := O.2.2.2.2.1.1 q _ hq
  obtain ⟨v1, v2, v3⟩ := vin_of hi0 hi1 h3.1
  have hq0 : cv ad (vr q) = .ref (ad q) := if_neg (by omega)
  show W p l en R s m args below meth c H locs cells slots Z (F0 m pc ls (cv ad (vi z) :: cv ad (vi i) :: cv ad (vr q) :: st.map (cv ad)))
  rw [hq0]
  refine va_zast (D := D) (n := n) (f := fun j => Int32.ofInt (f j)) X.1.1 X.1.2.1 (aok_K O.1 (O.2.1 q _ hq)) O.2.2.1 O.2.2.2.1 X.2.2.2.2 (q - 1) 0 (wsl_at O.2.2.2.2.1 hq) rfl v1 dg (fun H1 locs1 hP1 hD1 hS1 => ?_)
  have hnar : vp_nar .boolean (Int32.ofInt z) = Int32.ofInt z := by rcases hb with rfl | rfl <;> decide +kernel
  rw [hnar] at hP1 hD1
  rw [v2] at hP1 hD1
  have hf : upd (fun j => Int32.ofInt (f j)) i.toNat (Int32.ofInt z) = fun j => Int32.ofInt (ups f i.toNat z j) := by
    funext j; simp only [upd, ups]; split <;> rfl
  rw [hf] at hP1 hD1
  refine kk _ _ _ _ _ _ _ _ _ _ _ _ _ _ _ _ _ _ _ _ _ _ _ _ _ _ (CT_put X rfl (WO_put (arr 2 n (ups f i.toNat z)) O hq ⟨h3.1, fun j => ?_⟩ (have := O.2.1 q _ hq; this) hP1 hD1) hS1) hl hR
  by_cases hj : j = i.toNat
  · simp only [ups, hj, if_pos]; exact hz
  · simp only [ups, if_neg hj]; exact h3.2 j
theorem j_alen {q kd : Nat} {z : Int} (dg : decode cc pc = .ok (.arraylength, 1)) (hp : pc + 1 = pc') (e : aln h kd q = some z) (kk : R32 z → J L xs l own cc nL ini d Q rc rs pc' lv (vi z :: st) h) : J L xs l own cc nL ini d Q rc rs pc lv (vr q :: st) h := by
  subst hp
  intro p en R s m args below meth c H locs cells slots TC TS n0 n1 D cA ad ad0 base b t ls Z X hl hR
  obtain ⟨n, f, hq, rfl⟩ := aln_inv e
  have O := X.2.2.2.1
  obtain ⟨h1, h2, h3⟩ := O.2.2.2.2.1.1 q _ hq
  have hz : R32 (n : Int) := ⟨by omega, by have := h3.1; omega⟩
  have hq0 : cv ad (vr q) = .ref (ad q) := if_neg (by omega)
  show W p l en R s m args below meth c H locs cells slots Z (F0 m pc ls (cv ad (vr q) :: st.map (cv ad)))
  rw [hq0]
  refine va_alen (D := D) (v := Int32.ofInt n) X.1.1 X.1.2.1 (aok_K O.1 (O.2.1 q _ hq)) O.2.2.1 (q - 1) 0 (wsl_at O.2.2.2.2.1 hq) rfl (i32_nat n).symm dg ?_
  exact kk hz _ _ _ _ _ _ _ _ _ _ _ _ _ _ _ _ _ _ _ _ _ _ _ _ _ _ X hl hR
theorem j_rld {q ci : Nat} {i : Int} {z : Nat} (dg : decode cc pc = .ok (.aaload, 1)) (hp : pc + 1 = pc') (e : rld h ci q i = some z) (kk : (z ≤ h.1 ∨ 1000000 ≤ z) → J L xs l own cc nL ini d Q rc rs pc' lv (vr z :: st) h) : J L xs l own cc nL ini d Q rc rs pc lv (vi i :: vr q :: st) h := by
  subst hp
  intro p en R s m args below meth c H locs cells slots TC TS n0 n1 D cA ad ad0 base b t ls Z X hl hR
  obtain ⟨n, f, hq, hi0, hi1, rfl⟩ := rld_inv e
  have O := X.2.2.2.1
  obtain ⟨h1, h2, h3⟩ := O.2.2.2.2.1.1 q _ hq
  obtain ⟨v1, v2, v3⟩ := vin_of hi0 hi1 h3.1
  have hq0 : cv ad (vr q) = .ref (ad q) := if_neg (by omega)
  show W p l en R s m args below meth c H locs cells slots Z (F0 m pc ls (cv ad (vi i) :: cv ad (vr q) :: st.map (cv ad)))
  rw [hq0]
  refine va_aldq (D := D) (n := n) (C := clN ci) (f := fun j => if f j = 0 then none else some (ad (f j))) X.1.1 X.1.2.1 (aok_Q O.1 (O.2.1 q _ hq)) O.2.2.1 (q - 1) 0 (wsl_at O.2.2.2.2.1 hq) rfl v1 dg ?_
  rw [v2]
  have hv : va_rf (if f i.toNat = 0 then none else some (ad (f i.toNat))) = cv ad (vr (f i.toNat)) := by
    by_cases hz : f i.toNat = 0
    · rw [if_pos hz, hz]; rfl
    · rw [if_neg hz]; exact (if_neg hz).symm
  rw [hv]
  exact kk (h3.2 i.toNat) _ _ _ _ _ _ _ _ _ _ _ _ _ _ _ _ _ _ _ _ _ _ _ _ _ _ X hl hR
theorem j_rst {q ci w : Nat} {i : Int} (hci : ∃ r, vwCl[ci]? = some r) (dg : decode cc pc = .ok (.aastore, 1)) (hp : pc + 1 = pc') (e : rst h ci q i w = some h') (kk : J L xs l own cc nL ini d Q rc rs pc' lv st h') : J L xs l own cc nL ini d Q rc rs pc lv (vr w :: vi i :: vr q :: st) h := by
  subst hp
  intro p en R s m args below meth c H locs cells slots TC TS n0 n1 D cA ad ad0 base b t ls Z X hl hR
  obtain ⟨n, f, fs, hq, hw, hi0, hi1, rfl⟩ := rst_inv e
  obtain ⟨r, hr⟩ := hci
  have O := X.2.2.2.1
  obtain ⟨h1, h2, h3⟩ := O.2.2.2.2.1.1 q _ hq
  obtain ⟨w1, w2, w3⟩ := O.2.2.2.2.1.1 w _ hw
  obtain ⟨v1, v2, v3⟩ := vin_of hi0 hi1 h3.1
  have hq0 : cv ad (vr q) = .ref (ad q) := if_neg (by omega)
  have hw0 : cv ad (vr w) = .ref (ad w) := if_neg (by omega)
  have hcn : clN ci = r.1 := by simp only [clN, hr]
  have hKq := aok_Q O.1 (O.2.1 q _ hq)
  rw [hcn] at hKq
  show W p l en R s m args below meth c H locs cells slots Z (F0 m pc ls (cv ad (vr w) :: cv ad (vi i) :: cv ad (vr q) :: st.map (cv ad)))
  rw [hq0, hw0]
  refine va_astq (D := D) (n := n) (r := r) (ci := ci) (vs := fs.map (cv ad)) (f := fun j => if f j = 0 then none else some (ad (f j))) X.1.1 X.1.2.1 hKq O.2.2.1 O.2.2.2.1 X.2.2.2.2 (q - 1) 0 (w - 1) (wsl_at O.2.2.2.2.1 hq) rfl (wsl_at O.2.2.2.2.1 hw) hr v1 dg (fun H1 locs1 hP1 hD1 hS1 => ?_)
  rw [v2] at hP1 hD1
  have hf : va_up (fun j => if f j = 0 then none else some (ad (f j))) i.toNat (some (ad w)) = fun j => if ups f i.toNat w j = 0 then none else some (ad (ups f i.toNat w j)) := by
    funext j; simp only [va_up, ups]
    by_cases hj : j = i.toNat
    · subst hj; simp; omega
    · simp [hj]
  rw [hf] at hP1 hD1
  refine kk _ _ _ _ _ _ _ _ _ _ _ _ _ _ _ _ _ _ _ _ _ _ _ _ _ _ (CT_put X rfl (WO_put (rar ci n (ups f i.toNat w)) O hq ⟨h3.1, fun j => ?_⟩ (have := O.2.1 q _ hq; this) hP1 hD1) hS1) hl hR
  by_cases hj : j = i.toNat
  · simp only [ups, hj, if_pos]; exact Or.inl w2
  · simp only [ups, if_neg hj]; exact h3.2 j
theorem avs_of {n : Nat} : ∀ {fs : List AV}, (∀ (k : Nat) (v : AV), fs[k]? = some v → avk 0 v) → avs n fs
  | [], _ => trivial
  | v :: fs, z => ⟨by
      have z0 := z 0 v rfl
      match v, z0 with
      | .inl (.inl _), _ => trivial
      | .inl (.inr _), _ => trivial
      | .inr (.inl q), z1 => rcases z1 with z1 | z1; exact Or.inl (by omega); exact Or.inr z1
      | .inr (.inr _), _ => trivial, avs_of (fun k w hk => z (k + 1) w hk)⟩
def NL (own : String) (ix ci N : Nat) (fs : List AV) : Prop := ∃ (C : String) (T : u_T) (ty : Nat → FieldType), CLok ci C T N ty ∧ Cond.classLink own ix C ∈ gtb ∧ Cond.instantiable C N ∈ gtb ∧ Cond.initialized C ∈ gtb ∧ (∀ ad j, j < N → defaultValue (ty j) = vp_V (fs.map (cv ad)) j) ∧ ∀ (k : Nat) (v : AV), fs[k]? = some v → avk 0 v
theorem ups_eq (ad : Nat → Nat) (n q : Nat) (hn : n + 1 < 1000000) : ∀ k, k ≤ n ∨ 1000000 ≤ k → ups ad (n + 1) q k = ad k := fun k hk => by simp only [ups]; rw [if_neg (by omega)]
theorem j_new {ix ci N : Nat} {fs : List AV} (dg : decode cc pc = .ok (.new ix, 3)) (hp : pc + 3 = pc') (lk : NL own ix ci N fs) (hs : avs h.1 st) (hv : avs h.1 (lv.map Prod.snd)) (kk : J L xs l own cc nL ini d Q rc rs pc' lv (vr (h.1 + 1) :: st) (hadd h (obj ci fs))) : J L xs l own cc nL ini d Q (rc + 1) (rs + N) pc lv st h := by
  subst hp
  intro p en R s m args below meth c H locs cells slots TC TS n0 n1 D cA ad ad0 base b t ls Z X hl hR
  obtain ⟨C, T, ty, ⟨c1, c2, c3, c4⟩, n1', n2', n3', n4', n5'⟩ := lk
  have O := X.2.2.2.1
  obtain ⟨y1, y2, y3, y4, y5, y6, y7, y8, y9, y10⟩ := X.2.1
  refine va_new (D := D) (ci := ci) (C := C) (T := T) (N := N) (fs := fs.map (cv ad)) X.1.1 X.1.2.1 X.1.2.2.2.2.1 c2 ty c3 X.1.2.2.2.1 (X.1.2.2.2.2.1 _ n1') (X.1.2.2.2.2.1 _ n2') (X.1.2.2.2.2.1 _ n3') O.1 O.2.2.1 O.2.2.2.1 X.2.2.2.2 (fun q hq => Nat.le_trans X.2.2.1.2.2.1 hq) c1 (n4' ad) (by omega) (by omega) dg (fun q H1 hP1 hD1 hS1 => ?_)
  have hlim : h.1 + 1 < 1000000 := by omega
  have hfs : avs h.1 fs := avs_of n5'
  have O2 := WO_add (c := obj ci fs) q 0 O hlim (cac_mono (Nat.zero_le _) n5') trivial (.inr (ci, fs.map (cv ad))) (by simp only [ce]; rw [cvs_ext (ups_eq ad h.1 q hlim) hfs]) hP1 hD1
  have k2 := kk _ _ _ _ _ _ _ _ _ _ _ _ _ _ _ _ _ _ _ _ _ _ _ _ _ _ (CT_add q 0 X O2 hS1) (by rw [lvm_ext (ups_eq ad h.1 q hlim) hv]; exact hl) hR
  rw [List.map_cons, cvs_ext (ups_eq ad h.1 q hlim) hs] at k2
  have h3 : cv (ups ad (h.1 + 1) q) (vr (h.1 + 1)) = .ref q := by
    show (if h.1 + 1 = 0 then Value.null else Value.ref (ups ad (h.1 + 1) q (h.1 + 1))) = _
    rw [if_neg (by omega)]; simp [ups]
  rw [h3] at k2
  exact k2
theorem j_newI {z : Int} {N : Nat} (hN : z = (N : Int)) (hN2 : N < 100000) (dg : decode cc pc = .ok (.newarray .int, 2)) (hp : pc + 2 = pc') (hw : Cond.arrayClass .int ∈ gtb) (hs : avs h.1 st) (hv : avs h.1 (lv.map Prod.snd)) (kk : J L xs l own cc nL ini d Q rc rs pc' lv (vr (h.1 + 1) :: st) (hadd h (arr 0 N (fun _ => 0)))) : J L xs l own cc nL ini d Q (rc + 1) (rs + N) pc lv (vi z :: st) h := by
  subst hp
  subst hN
  intro p en R s m args below meth c H locs cells slots TC TS n0 n1 D cA ad ad0 base b t ls Z X hl hR
  have O := X.2.2.2.1
  obtain ⟨y1, y2, y3, y4, y5, y6, y7, y8, y9, y10⟩ := X.2.1
  have hr : R32 (N : Int) := ⟨by omega, by omega⟩
  have hb4 : componentBytes .int ≤ 8 := by decide
  refine va_newa (D := D) (atype := .int) (ty := .int) (N' := N) (a0 := (N, .inl fun _ => 0)) X.1.1 X.1.2.1 (X.1.2.2.2.2.1 _ hw) rfl O.1 O.2.2.1 O.2.2.2.1 X.2.2.2.2 (fun q hq => Nat.le_trans X.2.2.1.2.2.1 hq) (fun _ => rfl) (by rw [show (0 : Int32) = Int32.ofInt 0 from rfl, i32_lt hr z32]; omega) (by rw [i32_clamp hr]; rfl) (Nat.le_trans (Nat.mul_le_mul (Nat.le_of_lt hN2) hb4) (by decide)) (by omega) (by omega) dg (fun q cB H1 hK1 hP1 hD1 hS1 => ?_)
  have hlim : h.1 + 1 < 1000000 := by omega
  have O2 := WO_add (c := arr 0 N (fun _ => 0)) q cB O hlim ⟨by omega, fun _ => (show _ ∧ _ from ⟨by show (_ : Int) ≤ 0; decide, by show (0 : Int) ≤ _; decide⟩)⟩ ⟨by decide, hK1.2 0 (cB, .int) rfl⟩ (.inl (cB, N, .inl fun _ => 0)) (by simp [ce, ups]) hP1 hD1
  have k2 := kk _ _ _ _ _ _ _ _ _ _ _ _ _ _ _ _ _ _ _ _ _ _ _ _ _ _ (CT_add q cB X O2 hS1) (by rw [lvm_ext (ups_eq ad h.1 q hlim) hv]; exact hl) hR
  rw [List.map_cons, cvs_ext (ups_eq ad h.1 q hlim) hs] at k2
  have h3 : cv (ups ad (h.1 + 1) q) (vr (h.1 + 1)) = .ref q := by
    show (if h.1 + 1 = 0 then Value.null else Value.ref (ups ad (h.1 + 1) q (h.1 + 1))) = _
    rw [if_neg (by omega)]; simp [ups]
  rw [h3] at k2
  exact k2
theorem j_newL {z : Int} {N : Nat} (hN : z = (N : Int)) (hN2 : N < 100000) (dg : decode cc pc = .ok (.newarray .long, 2)) (hp : pc + 2 = pc') (hw : Cond.arrayClass .long ∈ gtb) (hs : avs h.1 st) (hv : avs h.1 (lv.map Prod.snd)) (kk : J L xs l own cc nL ini d Q rc rs pc' lv (vr (h.1 + 1) :: st) (hadd h (arr 1 N (fun _ => 0)))) : J L xs l own cc nL ini d Q (rc + 1) (rs + N) pc lv (vi z :: st) h := by
  subst hp
  subst hN
  intro p en R s m args below meth c H locs cells slots TC TS n0 n1 D cA ad ad0 base b t ls Z X hl hR
  have O := X.2.2.2.1
  obtain ⟨y1, y2, y3, y4, y5, y6, y7, y8, y9, y10⟩ := X.2.1
  have hr : R32 (N : Int) := ⟨by omega, by omega⟩
  have hb4 : componentBytes .long ≤ 8 := by decide
  refine va_newa (D := D) (atype := .long) (ty := .long) (N' := N) (a0 := (N, .inr (.inl fun _ => 0))) X.1.1 X.1.2.1 (X.1.2.2.2.2.1 _ hw) rfl O.1 O.2.2.1 O.2.2.2.1 X.2.2.2.2 (fun q hq => Nat.le_trans X.2.2.1.2.2.1 hq) (fun _ => rfl) (by rw [show (0 : Int32) = Int32.ofInt 0 from rfl, i32_lt hr z32]; omega) (by rw [i32_clamp hr]; rfl) (Nat.le_trans (Nat.mul_le_mul (Nat.le_of_lt hN2) hb4) (by decide)) (by omega) (by omega) dg (fun q cB H1 hK1 hP1 hD1 hS1 => ?_)
  have hlim : h.1 + 1 < 1000000 := by omega
  have O2 := WO_add (c := arr 1 N (fun _ => 0)) q cB O hlim ⟨by omega, fun _ => (show _ ∧ _ from ⟨by show (_ : Int) ≤ 0; decide, by show (0 : Int) ≤ _; decide⟩)⟩ ⟨by decide, hK1.2 0 (cB, .long) rfl⟩ (.inl (cB, N, .inr (.inl fun _ => 0))) (by simp [ce, ups]) hP1 hD1
  have k2 := kk _ _ _ _ _ _ _ _ _ _ _ _ _ _ _ _ _ _ _ _ _ _ _ _ _ _ (CT_add q cB X O2 hS1) (by rw [lvm_ext (ups_eq ad h.1 q hlim) hv]; exact hl) hR
  rw [List.map_cons, cvs_ext (ups_eq ad h.1 q hlim) hs] at k2
  have h3 : cv (ups ad (h.1 + 1) q) (vr (h.1 + 1)) = .ref q := by
    show (if h.1 + 1 = 0 then Value.null else Value.ref (ups ad (h.1 + 1) q (h.1 + 1))) = _
    rw [if_neg (by omega)]; simp [ups]
  rw [h3] at k2
  exact k2
theorem j_newZ {z : Int} {N : Nat} (hN : z = (N : Int)) (hN2 : N < 100000) (dg : decode cc pc = .ok (.newarray .boolean, 2)) (hp : pc + 2 = pc') (hw : Cond.arrayClass .boolean ∈ gtb) (hs : avs h.1 st) (hv : avs h.1 (lv.map Prod.snd)) (kk : J L xs l own cc nL ini d Q rc rs pc' lv (vr (h.1 + 1) :: st) (hadd h (arr 2 N (fun _ => 0)))) : J L xs l own cc nL ini d Q (rc + 1) (rs + N) pc lv (vi z :: st) h := by
  subst hp
  subst hN
  intro p en R s m args below meth c H locs cells slots TC TS n0 n1 D cA ad ad0 base b t ls Z X hl hR
  have O := X.2.2.2.1
  obtain ⟨y1, y2, y3, y4, y5, y6, y7, y8, y9, y10⟩ := X.2.1
  have hr : R32 (N : Int) := ⟨by omega, by omega⟩
  have hb4 : componentBytes .boolean ≤ 8 := by decide
  refine va_newa (D := D) (atype := .boolean) (ty := .boolean) (N' := N) (a0 := (N, .inl fun _ => 0)) X.1.1 X.1.2.1 (X.1.2.2.2.2.1 _ hw) rfl O.1 O.2.2.1 O.2.2.2.1 X.2.2.2.2 (fun q hq => Nat.le_trans X.2.2.1.2.2.1 hq) (fun _ => rfl) (by rw [show (0 : Int32) = Int32.ofInt 0 from rfl, i32_lt hr z32]; omega) (by rw [i32_clamp hr]; rfl) (Nat.le_trans (Nat.mul_le_mul (Nat.le_of_lt hN2) hb4) (by decide)) (by omega) (by omega) dg (fun q cB H1 hK1 hP1 hD1 hS1 => ?_)
  have hlim : h.1 + 1 < 1000000 := by omega
  have O2 := WO_add (c := arr 2 N (fun _ => 0)) q cB O hlim ⟨by omega, fun _ => (show _ ∧ _ from ⟨by show (_ : Int) ≤ 0; decide, by show (0 : Int) ≤ _; decide⟩)⟩ ⟨by decide, hK1.2 0 (cB, .boolean) rfl⟩ (.inl (cB, N, .inl fun _ => 0)) (by simp [ce, ups]) hP1 hD1
  have k2 := kk _ _ _ _ _ _ _ _ _ _ _ _ _ _ _ _ _ _ _ _ _ _ _ _ _ _ (CT_add q cB X O2 hS1) (by rw [lvm_ext (ups_eq ad h.1 q hlim) hv]; exact hl) hR
  rw [List.map_cons, cvs_ext (ups_eq ad h.1 q hlim) hs] at k2
  have h3 : cv (ups ad (h.1 + 1) q) (vr (h.1 + 1)) = .ref q := by
    show (if h.1 + 1 = 0 then Value.null else Value.ref (ups ad (h.1 + 1) q (h.1 + 1))) = _
    rw [if_neg (by omega)]; simp [ups]
  rw [h3] at k2
  exact k2
theorem j_newR {z : Int} {N ix ci : Nat} (hN : z = (N : Int)) (hN2 : N < 100000) (dg : decode cc pc = .ok (.anewarray ix, 3)) (hp : pc + 3 = pc') (hw : Cond.classLink own ix (clN ci) ∈ gtb) (hci : clN ci = RX6 ∨ clN ci = RX7) (hs : avs h.1 st) (hv : avs h.1 (lv.map Prod.snd)) (kk : J L xs l own cc nL ini d Q rc rs pc' lv (vr (h.1 + 1) :: st) (hadd h (rar ci N (fun _ => 0)))) : J L xs l own cc nL ini d Q (rc + 1) (rs + N) pc lv (vi z :: st) h := by
  subst hp
  subst hN
  intro p en R s m args below meth c H locs cells slots TC TS n0 n1 D cA ad ad0 base b t ls Z X hl hR
  have O := X.2.2.2.1
  obtain ⟨y1, y2, y3, y4, y5, y6, y7, y8, y9, y10⟩ := X.2.1
  have hr : R32 (N : Int) := ⟨by omega, by omega⟩
  refine va_newq (D := D) (C := clN ci) (N' := N) X.1.1 X.1.2.1 X.1.2.2.2.1 (X.1.2.2.2.2.1 _ hw) (by rcases hci with z | z <;> rw [z]; exact X.2.2.1.2.2.2.2.2.2.1; exact X.2.2.1.2.2.2.2.2.2.2) O.1 O.2.2.1 O.2.2.2.1 X.2.2.2.2 (fun q hq => Nat.le_trans X.2.2.1.2.2.1 hq) (by rw [show (0 : Int32) = Int32.ofInt 0 from rfl, i32_lt hr z32]; omega) (by rw [i32_clamp hr]; rfl) (by omega) (by omega) (by omega) dg (fun q cB H1 hK1 hP1 hD1 hS1 => ?_)
  have hlim : h.1 + 1 < 1000000 := by omega
  have O2 := WO_add (c := rar ci N (fun _ => 0)) q cB O hlim ⟨by omega, fun _ => Or.inl (Nat.zero_le _)⟩ (hK1.2 0 (cB, .object (clN ci)) rfl) (.inl (cB, N, .inr (.inr (.inr (.inr fun _ => none))))) (by simp [ce, ups]) hP1 hD1
  have k2 := kk _ _ _ _ _ _ _ _ _ _ _ _ _ _ _ _ _ _ _ _ _ _ _ _ _ _ (CT_add q cB X O2 hS1) (by rw [lvm_ext (ups_eq ad h.1 q hlim) hv]; exact hl) hR
  rw [List.map_cons, cvs_ext (ups_eq ad h.1 q hlim) hs] at k2
  have h3 : cv (ups ad (h.1 + 1) q) (vr (h.1 + 1)) = .ref q := by
    show (if h.1 + 1 = 0 then Value.null else Value.ref (ups ad (h.1 + 1) q (h.1 + 1))) = _
    rw [if_neg (by omega)]; simp [ups]
  rw [h3] at k2
  exact k2
theorem sp_b {D : va_G} {cA ad : Nat → Nat} {base b t : Nat} {s : State} {H : Heap} {n1 : Nat} (O : WO D cA ad base b t h s H) (h1 : h.1 ≤ n1) (h2 : n1 < 1000000) : cv ad (vr 1000000) = .ref b ∧ cv ad (vr 1000001) = .ref t := by
  constructor
  · show (if (1000000 : Nat) = 0 then Value.null else Value.ref (ad 1000000)) = _
    rw [if_neg (by decide), O.2.2.2.2.2 1000000 (by omega)]; rfl
  · show (if (1000001 : Nat) = 0 then Value.null else Value.ref (ad 1000001)) = _
    rw [if_neg (by decide), O.2.2.2.2.2 1000001 (by omega)]; rfl
theorem j_gets {ix : Nat} (dg : decode cc pc = .ok (.getstatic ix, 3)) (hp : pc + 3 = pc') (hw : Cond.fieldLink own ix RX2 "ORDERS" "[I" ∈ gtb) (kk : J L xs l own cc nL ini d Q rc rs pc' lv (vr 1000001 :: st) h) : J L xs l own cc nL ini d Q rc rs pc lv st h := by
  subst hp
  intro p en R s m args below meth c H locs cells slots TC TS n0 n1 D cA ad ad0 base b t ls Z X hl hR
  have O := X.2.2.2.1
  obtain ⟨y1, y2, y3, y4, y5, y6, y7, y8, y9, y10⟩ := X.2.1
  refine va_gets X.1.1 X.1.2.1 X.2.2.1.2.2.2.1 X.2.2.2.2 X.1.2.2.2.1 (X.1.2.2.2.2.1 _ hw) (fun _ z => z) dg ?_
  have k2 := kk _ _ _ _ _ _ _ _ _ _ _ _ _ _ _ _ _ _ _ _ _ _ _ _ _ _ X hl hR
  rw [List.map_cons, (sp_b O (n1 := n1) (by omega) y9).2] at k2
  exact k2
theorem j_ordld {i z : Int} (dg : decode cc pc = .ok (.iaload, 1)) (hp : pc + 1 = pc') (e : ldO i = some z) (kk : R32 z → J L xs l own cc nL ini d Q rc rs pc' lv (vi z :: st) h) : J L xs l own cc nL ini d Q rc rs pc lv (vi i :: vr 1000001 :: st) h := by
  subst hp
  intro p en R s m args below meth c H locs cells slots TC TS n0 n1 D cA ad ad0 base b t ls Z X hl hR
  have O := X.2.2.2.1
  obtain ⟨y1, y2, y3, y4, y5, y6, y7, y8, y9, y10⟩ := X.2.1
  unfold ldO at e
  split at e
  · next hi =>
    cases e
    obtain ⟨v1, v2, v3⟩ := vin_of (n := 8) hi.1 hi.2 (by decide)
    show W p l en R s m args below meth c H locs cells slots Z (F0 m pc ls (cv ad (vi i) :: cv ad (vr 1000001) :: st.map (cv ad)))
    rw [(sp_b O (n1 := n1) (by omega) y9).2]
    refine va_ti X.1.1 X.1.2.1 X.2.2.1.2.2.2.2.1 X.2.2.2.2 v1 (v := .int (Int32.ofInt (ordN i.toNat))) (by rw [v2]) dg ?_
    have hz : R32 (ordN i.toNat) := by
      unfold ordN; split <;> exact ⟨by decide, by decide⟩
    exact kk hz _ _ _ _ _ _ _ _ _ _ _ _ _ _ _ _ _ _ _ _ _ _ _ _ _ _ X hl hR
  · cases e
theorem j_scld {i z : Int} (hL : L < 2147483648) (dg : decode cc pc = .ok (.iaload, 1)) (hp : pc + 1 = pc') (e : ldS L xs i = some z) (kk : R32 z → J L xs l own cc nL ini d Q rc rs pc' lv (vi z :: st) h) : J L xs l own cc nL ini d Q rc rs pc lv (vi i :: vr 1000000 :: st) h := by
  subst hp
  intro p en R s m args below meth c H locs cells slots TC TS n0 n1 D cA ad ad0 base b t ls Z X hl hR
  have O := X.2.2.2.1
  obtain ⟨y1, y2, y3, y4, y5, y6, y7, y8, y9, y10⟩ := X.2.1
  unfold ldS at e
  split at e
  · next hi =>
    cases e
    obtain ⟨v1, v2, v3⟩ := vin_of (n := L) hi.1 hi.2 hL
    show W p l en R s m args below meth c H locs cells slots Z (F0 m pc ls (cv ad (vi i) :: cv ad (vr 1000000) :: st.map (cv ad)))
    rw [(sp_b O (n1 := n1) (by omega) y9).1]
    refine va_sld (A := fun q => base ≤ q) X.1.1 X.1.2.1 X.2.2.1.1 (Nat.lt_of_lt_of_le X.2.2.1.2.1 X.2.2.1.2.2.1) (Nat.not_le.mpr X.2.2.1.2.1) X.2.2.2.2 v1 dg ?_
    rw [v2]
    have k2 := kk (R32_to _) _ _ _ _ _ _ _ _ _ _ _ _ _ _ _ _ _ _ _ _ _ _ _ _ _ _ X hl hR
    simp only [List.map_cons, cv, Int32.ofInt_toInt] at k2
    exact k2
  · cases e
theorem j_scln (hL : L < 2147483648) (dg : decode cc pc = .ok (.arraylength, 1)) (hp : pc + 1 = pc') (kk : R32 (L : Int) → J L xs l own cc nL ini d Q rc rs pc' lv (vi (L : Int) :: st) h) : J L xs l own cc nL ini d Q rc rs pc lv (vr 1000000 :: st) h := by
  subst hp
  intro p en R s m args below meth c H locs cells slots TC TS n0 n1 D cA ad ad0 base b t ls Z X hl hR
  have O := X.2.2.2.1
  obtain ⟨y1, y2, y3, y4, y5, y6, y7, y8, y9, y10⟩ := X.2.1
  show W p l en R s m args below meth c H locs cells slots Z (F0 m pc ls (cv ad (vr 1000000) :: st.map (cv ad)))
  rw [(sp_b O (n1 := n1) (by omega) y9).1]
  refine va_slen (A := fun q => base ≤ q) X.1.1 X.1.2.1 X.2.2.1.1 (Nat.lt_of_lt_of_le X.2.2.1.2.1 X.2.2.1.2.2.1) (Nat.not_le.mpr X.2.2.1.2.1) X.2.2.2.2 dg ?_
  rw [← i32_nat]
  exact kk ⟨by omega, by omega⟩ _ _ _ _ _ _ _ _ _ _ _ _ _ _ _ _ _ _ _ _ _ _ _ _ _ _ X hl hR
end
