section
variable {L : Nat} {xs : Nat → Int32} {l : Launch} {own : String} {cc : ByteArray} {nL : Nat} {ini : Bool} {d : Nat} {Q : AV → Hp → Prop} {rc rs : Nat} {pc pc' : Nat} {lv lv' : List (Nat × AV)} {st : List AV} {h : Hp}
theorem lvm_at {ad : Nat → Nat} {ls : Array Slot} (hl : lv_has ls nL (lvm ad lv)) {n i : Nat} {v : AV} (he : lv[n]? = some (i, v)) : ls[i]? = some (.val (cv ad v)) :=
  lv_at hl n (by rw [lvm, List.getElem?_map, he]; rfl)
def catv : AV → Nat
  | .inl (.inr _) => 2
  | _ => 1
theorem cv_cat (ad : Nat → Nat) (v : AV) : (cv ad v).category = catv v := by
  match v with
  | .inl (.inl z) => rfl
  | .inl (.inr z) => rfl
  | .inr (.inl q) => unfold cv catv; dsimp only; split <;> rfl
  | .inr (.inr _) => rfl
def lpk (l : List (Nat × AV)) (ks : List Nat) : List (Nat × AV) := ks.filterMap (fun k => l[k]?)
def f1 (i : Nat) (lv : List (Nat × AV)) : List (Nat × AV) := lv.filter (fun q => !(q.1 == i) && !(q.1 + 1 == i && catv q.2 == 2))
def f2 (i : Nat) (lv : List (Nat × AV)) : List (Nat × AV) := lv.filter (fun q => !(q.1 == i) && (!(q.1 == i + 1) && !(q.1 + 1 == i && catv q.2 == 2)))
theorem lvm_f1 (ad : Nat → Nat) (i : Nat) (lv : List (Nat × AV)) : (lvm ad lv).filter (fun q => !(q.1 == i) && !(q.1 + 1 == i && q.2.category == 2)) = lvm ad (f1 i lv) := by
  unfold lvm f1
  rw [List.filter_map]
  congr 1
  apply List.filter_congr
  intro q _
  simp only [Function.comp, cv_cat]
theorem lvm_f2 (ad : Nat → Nat) (i : Nat) (lv : List (Nat × AV)) : (lvm ad lv).filter (fun q => !(q.1 == i) && (!(q.1 == i + 1) && !(q.1 + 1 == i && q.2.category == 2))) = lvm ad (f2 i lv) := by
  unfold lvm f2
  rw [List.filter_map]
  congr 1
  apply List.filter_congr
  intro q _
  simp only [Function.comp, cv_cat]
theorem lvm_pk {ad : Nat → Nat} {ls : Array Slot} {a : List (Nat × AV)} (hl : lv_has ls nL (lvm ad a)) (ks : List Nat) (he : lpk a ks = lv') : lv_has ls nL (lvm ad lv') := by
  subst he
  refine lv_sub hl ks ?_
  simp only [lv_pick, lvm, lpk, List.map_filterMap]
  congr 1
  funext k
  rw [List.getElem?_map]
theorem j_sub (ks : List Nat) (he : lpk lv ks = lv') (k : J L xs l own cc nL ini d Q rc rs pc lv' st h) : J L xs l own cc nL ini d Q rc rs pc lv st h := by
  intro p e R s m args below meth c H locs cells slots TC TS n0 n1 D cA ad ad0 base b t ls Z X hl hR
  exact k _ _ _ _ _ _ _ _ _ _ _ _ _ _ _ _ _ _ _ _ _ _ _ _ _ _ X (lvm_pk hl ks he) hR
theorem j_imp {Q' : AV → Hp → Prop} (hq : ∀ r h', Q' r h' → Q r h') (k : J L xs l own cc nL ini d Q' rc rs pc lv st h) : J L xs l own cc nL ini d Q rc rs pc lv st h := by
  intro p e R s m args below meth c H locs cells slots TC TS n0 n1 D cA ad ad0 base b t ls Z X hl hR
  exact k _ _ _ _ _ _ _ _ _ _ _ _ _ _ _ _ _ _ _ _ _ _ _ _ _ _ X hl (fun r h' cA' ad' H' locs' cells' slots' pc' ls' q => hR r h' cA' ad' H' locs' cells' slots' pc' ls' (hq r h' q))
theorem j_iconst {n : Int} (dg : decode cc pc = .ok (.iconst n, 1)) (hp : pc + 1 = pc') (k : J L xs l own cc nL ini d Q rc rs pc' lv (vi n :: st) h) : J L xs l own cc nL ini d Q rc rs pc lv (st) h := by
  subst hp
  intro p e R s m args below meth c H locs cells slots TC TS n0 n1 D cA ad ad0 base b t ls Z X hl hR
  refine lv_iconst (v := Int32.ofInt n) X.1.1 X.1.2.1 dg rfl ?_
  exact k _ _ _ _ _ _ _ _ _ _ _ _ _ _ _ _ _ _ _ _ _ _ _ _ _ _ X hl hR
theorem j_bipush {n : Int} (dg : decode cc pc = .ok (.bipush n, 2)) (hp : pc + 2 = pc') (hn : (Int8.ofInt n).toInt32 = Int32.ofInt n) (k : J L xs l own cc nL ini d Q rc rs pc' lv (vi n :: st) h) : J L xs l own cc nL ini d Q rc rs pc lv (st) h := by
  subst hp
  intro p e R s m args below meth c H locs cells slots TC TS n0 n1 D cA ad ad0 base b t ls Z X hl hR
  refine lv_bipush (v := Int32.ofInt n) X.1.1 X.1.2.1 dg hn ?_
  exact k _ _ _ _ _ _ _ _ _ _ _ _ _ _ _ _ _ _ _ _ _ _ _ _ _ _ X hl hR
theorem j_sipush {n : Int} (dg : decode cc pc = .ok (.sipush n, 3)) (hp : pc + 3 = pc') (hn : (Int16.ofInt n).toInt32 = Int32.ofInt n) (k : J L xs l own cc nL ini d Q rc rs pc' lv (vi n :: st) h) : J L xs l own cc nL ini d Q rc rs pc lv (st) h := by
  subst hp
  intro p e R s m args below meth c H locs cells slots TC TS n0 n1 D cA ad ad0 base b t ls Z X hl hR
  refine lv_sipush (v := Int32.ofInt n) X.1.1 X.1.2.1 dg hn ?_
  exact k _ _ _ _ _ _ _ _ _ _ _ _ _ _ _ _ _ _ _ _ _ _ _ _ _ _ X hl hR
theorem j_lconst {n : Fin 2} {z : Int} (dg : decode cc pc = .ok (.lconst n, 1)) (hp : pc + 1 = pc') (hn : Int64.ofNat (n : Nat) = Int64.ofInt z) (k : J L xs l own cc nL ini d Q rc rs pc' lv (vl z :: st) h) : J L xs l own cc nL ini d Q rc rs pc lv (st) h := by
  subst hp
  intro p e R s m args below meth c H locs cells slots TC TS n0 n1 D cA ad ad0 base b t ls Z X hl hR
  refine lv_lconst (v := Int64.ofInt z) X.1.1 X.1.2.1 dg hn ?_
  exact k _ _ _ _ _ _ _ _ _ _ _ _ _ _ _ _ _ _ _ _ _ _ _ _ _ _ X hl hR
theorem j_ldc {ix : Nat} {v : Int32} {z : Int} (dg : decode cc pc = .ok (.ldc ix, 2)) (hp : pc + 2 = pc') (hw : Cond.constant own ix v ∈ gtb) (hz : v = Int32.ofInt z) (k : J L xs l own cc nL ini d Q rc rs pc' lv (vi z :: st) h) : J L xs l own cc nL ini d Q rc rs pc lv (st) h := by
  subst hp
  intro p e R s m args below meth c H locs cells slots TC TS n0 n1 D cA ad ad0 base b t ls Z X hl hR
  refine lv_ldc (v := v) X.1.1 X.1.2.1 X.1.2.2.2.1 (X.1.2.2.2.2.1 _ hw) dg ?_
  rw [hz]
  exact k _ _ _ _ _ _ _ _ _ _ _ _ _ _ _ _ _ _ _ _ _ _ _ _ _ _ X hl hR
theorem j_ldcw {ix : Nat} {v : Int32} {z : Int} (dg : decode cc pc = .ok (.ldc_w ix, 3)) (hp : pc + 3 = pc') (hw : Cond.constant own ix v ∈ gtb) (hz : v = Int32.ofInt z) (k : J L xs l own cc nL ini d Q rc rs pc' lv (vi z :: st) h) : J L xs l own cc nL ini d Q rc rs pc lv (st) h := by
  subst hp
  intro p e R s m args below meth c H locs cells slots TC TS n0 n1 D cA ad ad0 base b t ls Z X hl hR
  refine lv_ldcw (v := v) X.1.1 X.1.2.1 X.1.2.2.2.1 (X.1.2.2.2.2.1 _ hw) dg ?_
  rw [hz]
  exact k _ _ _ _ _ _ _ _ _ _ _ _ _ _ _ _ _ _ _ _ _ _ _ _ _ _ X hl hR
theorem j_ldc2 {ix : Nat} {v : Int64} {z : Int} (dg : decode cc pc = .ok (.ldc2_w ix, 3)) (hp : pc + 3 = pc') (hw : Cond.constantLong own ix v ∈ gtb) (hz : v = Int64.ofInt z) (k : J L xs l own cc nL ini d Q rc rs pc' lv (vl z :: st) h) : J L xs l own cc nL ini d Q rc rs pc lv (st) h := by
  subst hp
  intro p e R s m args below meth c H locs cells slots TC TS n0 n1 D cA ad ad0 base b t ls Z X hl hR
  refine lv_ldc2 (v := v) X.1.1 X.1.2.1 X.1.2.2.2.1 (X.1.2.2.2.2.1 _ hw) dg ?_
  rw [hz]
  exact k _ _ _ _ _ _ _ _ _ _ _ _ _ _ _ _ _ _ _ _ _ _ _ _ _ _ X hl hR
theorem j_iload_n {k : Fin 4} {i : Nat} {z : Int} (dg : decode cc pc = .ok (.iload_n k, 1)) (hp : pc + 1 = pc') (hi : (k : Nat) = i) (n : Nat) (he : lv[n]? = some (i, vi z)) (k : J L xs l own cc nL ini d Q rc rs pc' lv (vi z :: st) h) : J L xs l own cc nL ini d Q rc rs pc lv (st) h := by
  subst hp
  intro p e R s m args below meth c H locs cells slots TC TS n0 n1 D cA ad ad0 base b t ls Z X hl hR
  refine lv_iload_n X.1.1 X.1.2.1 dg hi (lvm_at hl he) ?_
  exact k _ _ _ _ _ _ _ _ _ _ _ _ _ _ _ _ _ _ _ _ _ _ _ _ _ _ X hl hR
theorem j_iload {i : Nat} {z : Int} (dg : decode cc pc = .ok (.iload i, 2)) (hp : pc + 2 = pc') (n : Nat) (he : lv[n]? = some (i, vi z)) (k : J L xs l own cc nL ini d Q rc rs pc' lv (vi z :: st) h) : J L xs l own cc nL ini d Q rc rs pc lv (st) h := by
  subst hp
  intro p e R s m args below meth c H locs cells slots TC TS n0 n1 D cA ad ad0 base b t ls Z X hl hR
  refine lv_iload X.1.1 X.1.2.1 dg (lvm_at hl he) ?_
  exact k _ _ _ _ _ _ _ _ _ _ _ _ _ _ _ _ _ _ _ _ _ _ _ _ _ _ X hl hR
theorem j_lload_n {k : Fin 4} {i : Nat} {z : Int} (dg : decode cc pc = .ok (.lload_n k, 1)) (hp : pc + 1 = pc') (hi : (k : Nat) = i) (n : Nat) (he : lv[n]? = some (i, vl z)) (k : J L xs l own cc nL ini d Q rc rs pc' lv (vl z :: st) h) : J L xs l own cc nL ini d Q rc rs pc lv (st) h := by
  subst hp
  intro p e R s m args below meth c H locs cells slots TC TS n0 n1 D cA ad ad0 base b t ls Z X hl hR
  refine lv_lload_n X.1.1 X.1.2.1 dg hi (lvm_at hl he) ?_
  exact k _ _ _ _ _ _ _ _ _ _ _ _ _ _ _ _ _ _ _ _ _ _ _ _ _ _ X hl hR
theorem j_lload {i : Nat} {z : Int} (dg : decode cc pc = .ok (.lload i, 2)) (hp : pc + 2 = pc') (n : Nat) (he : lv[n]? = some (i, vl z)) (k : J L xs l own cc nL ini d Q rc rs pc' lv (vl z :: st) h) : J L xs l own cc nL ini d Q rc rs pc lv (st) h := by
  subst hp
  intro p e R s m args below meth c H locs cells slots TC TS n0 n1 D cA ad ad0 base b t ls Z X hl hR
  refine lv_lload X.1.1 X.1.2.1 dg (lvm_at hl he) ?_
  exact k _ _ _ _ _ _ _ _ _ _ _ _ _ _ _ _ _ _ _ _ _ _ _ _ _ _ X hl hR
theorem j_aload_n {k : Fin 4} {i q : Nat} (dg : decode cc pc = .ok (.aload_n k, 1)) (hp : pc + 1 = pc') (hi : (k : Nat) = i) (n : Nat) (he : lv[n]? = some (i, vr q)) (k : J L xs l own cc nL ini d Q rc rs pc' lv (vr q :: st) h) : J L xs l own cc nL ini d Q rc rs pc lv (st) h := by
  subst hp
  intro p e R s m args below meth c H locs cells slots TC TS n0 n1 D cA ad ad0 base b t ls Z X hl hR
  have h1 := lvm_at hl he
  by_cases hq : q = 0
  · subst hq
    refine lv_aload_nN X.1.1 X.1.2.1 dg hi h1 ?_
    exact k _ _ _ _ _ _ _ _ _ _ _ _ _ _ _ _ _ _ _ _ _ _ _ _ _ _ X hl hR
  · have h2 : cv ad (vr q) = .ref (ad q) := if_neg hq
    rw [h2] at h1
    refine lv_aload_n X.1.1 X.1.2.1 dg hi h1 ?_
    rw [← h2]
    exact k _ _ _ _ _ _ _ _ _ _ _ _ _ _ _ _ _ _ _ _ _ _ _ _ _ _ X hl hR
theorem j_aload {i q : Nat} (dg : decode cc pc = .ok (.aload i, 2)) (hp : pc + 2 = pc') (n : Nat) (he : lv[n]? = some (i, vr q)) (k : J L xs l own cc nL ini d Q rc rs pc' lv (vr q :: st) h) : J L xs l own cc nL ini d Q rc rs pc lv (st) h := by
  subst hp
  intro p e R s m args below meth c H locs cells slots TC TS n0 n1 D cA ad ad0 base b t ls Z X hl hR
  have h1 := lvm_at hl he
  by_cases hq : q = 0
  · subst hq
    refine lv_aloadN X.1.1 X.1.2.1 dg  h1 ?_
    exact k _ _ _ _ _ _ _ _ _ _ _ _ _ _ _ _ _ _ _ _ _ _ _ _ _ _ X hl hR
  · have h2 : cv ad (vr q) = .ref (ad q) := if_neg hq
    rw [h2] at h1
    refine lv_aload X.1.1 X.1.2.1 dg  h1 ?_
    rw [← h2]
    exact k _ _ _ _ _ _ _ _ _ _ _ _ _ _ _ _ _ _ _ _ _ _ _ _ _ _ X hl hR
theorem j_istore_n {k : Fin 4} {i : Nat} {z : Int} (dg : decode cc pc = .ok (.istore_n k, 1)) (hp : pc + 1 = pc') (hi : (k : Nat) = i) (hn : i < nL) (ks : List Nat) (he : lpk ((i, vi z) :: f1 i lv) ks = lv') (k : J L xs l own cc nL ini d Q rc rs pc' lv' st h) : J L xs l own cc nL ini d Q rc rs pc lv (vi z :: st) h := by
  subst hp
  intro p e R s m args below meth c H locs cells slots TC TS n0 n1 D cA ad ad0 base b t ls Z X hl hR
  refine lv_istore_n (lv' := lvm ad ((i, vi z) :: f1 i lv)) X.1.1 X.1.2.1 dg hi hl hn (by rw [lvm_f1]; rfl) (fun ls' hl' => ?_)
  exact k _ _ _ _ _ _ _ _ _ _ _ _ _ _ _ _ _ _ _ _ _ _ _ _ _ _ X (lvm_pk (a := _) hl' ks he) hR
theorem j_istore {i : Nat} {z : Int} (dg : decode cc pc = .ok (.istore i, 2)) (hp : pc + 2 = pc') (hn : i < nL) (ks : List Nat) (he : lpk ((i, vi z) :: f1 i lv) ks = lv') (k : J L xs l own cc nL ini d Q rc rs pc' lv' st h) : J L xs l own cc nL ini d Q rc rs pc lv (vi z :: st) h := by
  subst hp
  intro p e R s m args below meth c H locs cells slots TC TS n0 n1 D cA ad ad0 base b t ls Z X hl hR
  refine lv_istore (lv' := lvm ad ((i, vi z) :: f1 i lv)) X.1.1 X.1.2.1 dg hl hn (by rw [lvm_f1]; rfl) (fun ls' hl' => ?_)
  exact k _ _ _ _ _ _ _ _ _ _ _ _ _ _ _ _ _ _ _ _ _ _ _ _ _ _ X (lvm_pk (a := _) hl' ks he) hR
theorem j_lstore_n {k : Fin 4} {i : Nat} {z : Int} (dg : decode cc pc = .ok (.lstore_n k, 1)) (hp : pc + 1 = pc') (hi : (k : Nat) = i) (hn : i + 1 < nL) (ks : List Nat) (he : lpk ((i, vl z) :: f2 i lv) ks = lv') (k : J L xs l own cc nL ini d Q rc rs pc' lv' st h) : J L xs l own cc nL ini d Q rc rs pc lv (vl z :: st) h := by
  subst hp
  intro p e R s m args below meth c H locs cells slots TC TS n0 n1 D cA ad ad0 base b t ls Z X hl hR
  refine lv_lstore_n (lv' := lvm ad ((i, vl z) :: f2 i lv)) X.1.1 X.1.2.1 dg hi hl hn (by rw [lvm_f2]; rfl) (fun ls' hl' => ?_)
  exact k _ _ _ _ _ _ _ _ _ _ _ _ _ _ _ _ _ _ _ _ _ _ _ _ _ _ X (lvm_pk (a := _) hl' ks he) hR
theorem j_lstore {i : Nat} {z : Int} (dg : decode cc pc = .ok (.lstore i, 2)) (hp : pc + 2 = pc') (hn : i + 1 < nL) (ks : List Nat) (he : lpk ((i, vl z) :: f2 i lv) ks = lv') (k : J L xs l own cc nL ini d Q rc rs pc' lv' st h) : J L xs l own cc nL ini d Q rc rs pc lv (vl z :: st) h := by
  subst hp
  intro p e R s m args below meth c H locs cells slots TC TS n0 n1 D cA ad ad0 base b t ls Z X hl hR
  refine lv_lstore (lv' := lvm ad ((i, vl z) :: f2 i lv)) X.1.1 X.1.2.1 dg hl hn (by rw [lvm_f2]; rfl) (fun ls' hl' => ?_)
  exact k _ _ _ _ _ _ _ _ _ _ _ _ _ _ _ _ _ _ _ _ _ _ _ _ _ _ X (lvm_pk (a := _) hl' ks he) hR
theorem j_astore_n {k : Fin 4} {i q : Nat} (dg : decode cc pc = .ok (.astore_n k, 1)) (hp : pc + 1 = pc') (hi : (k : Nat) = i) (hn : i < nL) (ks : List Nat) (he : lpk ((i, vr q) :: f1 i lv) ks = lv') (k : J L xs l own cc nL ini d Q rc rs pc' lv' st h) : J L xs l own cc nL ini d Q rc rs pc lv (vr q :: st) h := by
  subst hp
  intro p e R s m args below meth c H locs cells slots TC TS n0 n1 D cA ad ad0 base b t ls Z X hl hR
  by_cases hq : q = 0
  · subst hq
    refine lv_astore_nN (lv' := lvm ad ((i, vr 0) :: f1 i lv)) X.1.1 X.1.2.1 dg hi hl hn (by rw [lvm_f1]; rfl) (fun ls' hl' => ?_)
    exact k _ _ _ _ _ _ _ _ _ _ _ _ _ _ _ _ _ _ _ _ _ _ _ _ _ _ X (lvm_pk (a := _) hl' ks he) hR
  · have h2 : cv ad (vr q) = .ref (ad q) := if_neg hq
    show W _ _ _ _ _ _ _ _ _ _ _ _ _ _ _ (F0 m pc ls (cv ad (vr q) :: st.map (cv ad)))
    rw [h2]
    refine lv_astore_n (lv' := lvm ad ((i, vr q) :: f1 i lv)) X.1.1 X.1.2.1 dg hi hl hn (by rw [lvm_f1, ← h2]; rfl) (fun ls' hl' => ?_)
    exact k _ _ _ _ _ _ _ _ _ _ _ _ _ _ _ _ _ _ _ _ _ _ _ _ _ _ X (lvm_pk (a := _) hl' ks he) hR
theorem j_astore {i q : Nat} (dg : decode cc pc = .ok (.astore i, 2)) (hp : pc + 2 = pc') (hn : i < nL) (ks : List Nat) (he : lpk ((i, vr q) :: f1 i lv) ks = lv') (k : J L xs l own cc nL ini d Q rc rs pc' lv' st h) : J L xs l own cc nL ini d Q rc rs pc lv (vr q :: st) h := by
  subst hp
  intro p e R s m args below meth c H locs cells slots TC TS n0 n1 D cA ad ad0 base b t ls Z X hl hR
  by_cases hq : q = 0
  · subst hq
    refine lv_astoreN (lv' := lvm ad ((i, vr 0) :: f1 i lv)) X.1.1 X.1.2.1 dg hl hn (by rw [lvm_f1]; rfl) (fun ls' hl' => ?_)
    exact k _ _ _ _ _ _ _ _ _ _ _ _ _ _ _ _ _ _ _ _ _ _ _ _ _ _ X (lvm_pk (a := _) hl' ks he) hR
  · have h2 : cv ad (vr q) = .ref (ad q) := if_neg hq
    show W _ _ _ _ _ _ _ _ _ _ _ _ _ _ _ (F0 m pc ls (cv ad (vr q) :: st.map (cv ad)))
    rw [h2]
    refine lv_astore (lv' := lvm ad ((i, vr q) :: f1 i lv)) X.1.1 X.1.2.1 dg hl hn (by rw [lvm_f1, ← h2]; rfl) (fun ls' hl' => ?_)
    exact k _ _ _ _ _ _ _ _ _ _ _ _ _ _ _ _ _ _ _ _ _ _ _ _ _ _ X (lvm_pk (a := _) hl' ks he) hR
theorem j_iinc {i k0 : Nat} {n z : Int} (dg : decode cc pc = .ok (.iinc i n, 3)) (hp : pc + 3 = pc') (hk : lv[k0]? = some (i, vi z)) (hn : i < nL) (ks : List Nat) (he : lpk ((i, vi (z + n)) :: f1 i lv) ks = lv') (k : J L xs l own cc nL ini d Q rc rs pc' lv' st h) : J L xs l own cc nL ini d Q rc rs pc lv st h := by
  subst hp
  intro p e R s m args below meth c H locs cells slots TC TS n0 n1 D cA ad ad0 base b t ls Z X hl hR
  refine lv_iinc (v := Int32.ofInt (z + n)) (k := k0) (lv' := lvm ad ((i, vi (z + n)) :: f1 i lv)) X.1.1 X.1.2.1 dg hl (by rw [lvm, List.getElem?_map, hk]; rfl) (by rw [Int32.ofInt_add]) hn (by rw [lvm_f1]; rfl) (fun ls' hl' => ?_)
  exact k _ _ _ _ _ _ _ _ _ _ _ _ _ _ _ _ _ _ _ _ _ _ _ _ _ _ X (lvm_pk (a := _) hl' ks he) hR
theorem j_iadd {x y : Int} (dg : decode cc pc = .ok (.iadd, 1)) (hp : pc + 1 = pc') (k : J L xs l own cc nL ini d Q rc rs pc' lv (vi (x + y) :: st) h) : J L xs l own cc nL ini d Q rc rs pc lv (vi y :: vi x :: st) h := by
  subst hp
  intro p e R s m args below meth c H locs cells slots TC TS n0 n1 D cA ad ad0 base b t ls Z X hl hR
  refine lv_iadd X.1.1 X.1.2.1 dg ?_
  rw [← Int32.ofInt_add]
  exact k _ _ _ _ _ _ _ _ _ _ _ _ _ _ _ _ _ _ _ _ _ _ _ _ _ _ X hl hR
theorem j_isub {x y : Int} (dg : decode cc pc = .ok (.isub, 1)) (hp : pc + 1 = pc') (k : J L xs l own cc nL ini d Q rc rs pc' lv (vi (x - y) :: st) h) : J L xs l own cc nL ini d Q rc rs pc lv (vi y :: vi x :: st) h := by
  subst hp
  intro p e R s m args below meth c H locs cells slots TC TS n0 n1 D cA ad ad0 base b t ls Z X hl hR
  refine lv_isub X.1.1 X.1.2.1 dg ?_
  rw [← Int32.ofInt_sub]
  exact k _ _ _ _ _ _ _ _ _ _ _ _ _ _ _ _ _ _ _ _ _ _ _ _ _ _ X hl hR
theorem j_imul {x y : Int} (dg : decode cc pc = .ok (.imul, 1)) (hp : pc + 1 = pc') (k : J L xs l own cc nL ini d Q rc rs pc' lv (vi (x * y) :: st) h) : J L xs l own cc nL ini d Q rc rs pc lv (vi y :: vi x :: st) h := by
  subst hp
  intro p e R s m args below meth c H locs cells slots TC TS n0 n1 D cA ad ad0 base b t ls Z X hl hR
  refine lv_imul X.1.1 X.1.2.1 dg ?_
  rw [← Int32.ofInt_mul]
  exact k _ _ _ _ _ _ _ _ _ _ _ _ _ _ _ _ _ _ _ _ _ _ _ _ _ _ X hl hR
theorem j_ladd {x y : Int} (dg : decode cc pc = .ok (.ladd, 1)) (hp : pc + 1 = pc') (k : J L xs l own cc nL ini d Q rc rs pc' lv (vl (x + y) :: st) h) : J L xs l own cc nL ini d Q rc rs pc lv (vl y :: vl x :: st) h := by
  subst hp
  intro p e R s m args below meth c H locs cells slots TC TS n0 n1 D cA ad ad0 base b t ls Z X hl hR
  refine lv_ladd X.1.1 X.1.2.1 dg ?_
  rw [← Int64.ofInt_add]
  exact k _ _ _ _ _ _ _ _ _ _ _ _ _ _ _ _ _ _ _ _ _ _ _ _ _ _ X hl hR
theorem j_lsub {x y : Int} (dg : decode cc pc = .ok (.lsub, 1)) (hp : pc + 1 = pc') (k : J L xs l own cc nL ini d Q rc rs pc' lv (vl (x - y) :: st) h) : J L xs l own cc nL ini d Q rc rs pc lv (vl y :: vl x :: st) h := by
  subst hp
  intro p e R s m args below meth c H locs cells slots TC TS n0 n1 D cA ad ad0 base b t ls Z X hl hR
  refine lv_lsub X.1.1 X.1.2.1 dg ?_
  rw [← Int64.ofInt_sub]
  exact k _ _ _ _ _ _ _ _ _ _ _ _ _ _ _ _ _ _ _ _ _ _ _ _ _ _ X hl hR
theorem j_lmul {x y : Int} (dg : decode cc pc = .ok (.lmul, 1)) (hp : pc + 1 = pc') (k : J L xs l own cc nL ini d Q rc rs pc' lv (vl (x * y) :: st) h) : J L xs l own cc nL ini d Q rc rs pc lv (vl y :: vl x :: st) h := by
  subst hp
  intro p e R s m args below meth c H locs cells slots TC TS n0 n1 D cA ad ad0 base b t ls Z X hl hR
  refine lv_lmul X.1.1 X.1.2.1 dg ?_
  rw [← Int64.ofInt_mul]
  exact k _ _ _ _ _ _ _ _ _ _ _ _ _ _ _ _ _ _ _ _ _ _ _ _ _ _ X hl hR
theorem j_iand {x y : Int} (dg : decode cc pc = .ok (.iand, 1)) (hp : pc + 1 = pc') (k : J L xs l own cc nL ini d Q rc rs pc' lv (vi (bAnd x y) :: st) h) : J L xs l own cc nL ini d Q rc rs pc lv (vi y :: vi x :: st) h := by
  subst hp
  intro p e R s m args below meth c H locs cells slots TC TS n0 n1 D cA ad ad0 base b t ls Z X hl hR
  refine lv_iand X.1.1 X.1.2.1 dg ?_
  have k := k _ _ _ _ _ _ _ _ _ _ _ _ _ _ _ _ _ _ _ _ _ _ _ _ _ _ X hl hR
  simp only [List.map_cons, cv, bAnd, Int32.ofInt_toInt] at k
  exact k
theorem j_ior {x y : Int} (dg : decode cc pc = .ok (.ior, 1)) (hp : pc + 1 = pc') (k : J L xs l own cc nL ini d Q rc rs pc' lv (vi (bOr x y) :: st) h) : J L xs l own cc nL ini d Q rc rs pc lv (vi y :: vi x :: st) h := by
  subst hp
  intro p e R s m args below meth c H locs cells slots TC TS n0 n1 D cA ad ad0 base b t ls Z X hl hR
  refine lv_ior X.1.1 X.1.2.1 dg ?_
  have k := k _ _ _ _ _ _ _ _ _ _ _ _ _ _ _ _ _ _ _ _ _ _ _ _ _ _ X hl hR
  simp only [List.map_cons, cv, bOr, Int32.ofInt_toInt] at k
  exact k
theorem j_ixor {x y : Int} (dg : decode cc pc = .ok (.ixor, 1)) (hp : pc + 1 = pc') (k : J L xs l own cc nL ini d Q rc rs pc' lv (vi (bXor x y) :: st) h) : J L xs l own cc nL ini d Q rc rs pc lv (vi y :: vi x :: st) h := by
  subst hp
  intro p e R s m args below meth c H locs cells slots TC TS n0 n1 D cA ad ad0 base b t ls Z X hl hR
  refine lv_ixor X.1.1 X.1.2.1 dg ?_
  have k := k _ _ _ _ _ _ _ _ _ _ _ _ _ _ _ _ _ _ _ _ _ _ _ _ _ _ X hl hR
  simp only [List.map_cons, cv, bXor, Int32.ofInt_toInt] at k
  exact k
theorem j_ishl {x y : Int} (dg : decode cc pc = .ok (.ishl, 1)) (hp : pc + 1 = pc') (k : J L xs l own cc nL ini d Q rc rs pc' lv (vi (bShl x y) :: st) h) : J L xs l own cc nL ini d Q rc rs pc lv (vi y :: vi x :: st) h := by
  subst hp
  intro p e R s m args below meth c H locs cells slots TC TS n0 n1 D cA ad ad0 base b t ls Z X hl hR
  refine lv_ishl X.1.1 X.1.2.1 dg ?_
  have k := k _ _ _ _ _ _ _ _ _ _ _ _ _ _ _ _ _ _ _ _ _ _ _ _ _ _ X hl hR
  simp only [List.map_cons, cv, bShl, Int32.ofInt_toInt] at k
  exact k
theorem j_ishr {x y : Int} (dg : decode cc pc = .ok (.ishr, 1)) (hp : pc + 1 = pc') (k : J L xs l own cc nL ini d Q rc rs pc' lv (vi (bShr x y) :: st) h) : J L xs l own cc nL ini d Q rc rs pc lv (vi y :: vi x :: st) h := by
  subst hp
  intro p e R s m args below meth c H locs cells slots TC TS n0 n1 D cA ad ad0 base b t ls Z X hl hR
  refine lv_ishr X.1.1 X.1.2.1 dg ?_
  have k := k _ _ _ _ _ _ _ _ _ _ _ _ _ _ _ _ _ _ _ _ _ _ _ _ _ _ X hl hR
  simp only [List.map_cons, cv, bShr, Int32.ofInt_toInt] at k
  exact k
theorem j_iushr {x y : Int} (dg : decode cc pc = .ok (.iushr, 1)) (hp : pc + 1 = pc') (k : J L xs l own cc nL ini d Q rc rs pc' lv (vi (bUsh x y) :: st) h) : J L xs l own cc nL ini d Q rc rs pc lv (vi y :: vi x :: st) h := by
  subst hp
  intro p e R s m args below meth c H locs cells slots TC TS n0 n1 D cA ad ad0 base b t ls Z X hl hR
  refine lv_iushr X.1.1 X.1.2.1 dg rfl ?_
  have k := k _ _ _ _ _ _ _ _ _ _ _ _ _ _ _ _ _ _ _ _ _ _ _ _ _ _ X hl hR
  simp only [List.map_cons, cv, bUsh, Int32.ofInt_toInt] at k
  exact k
theorem j_land {x y : Int} (dg : decode cc pc = .ok (.land, 1)) (hp : pc + 1 = pc') (k : J L xs l own cc nL ini d Q rc rs pc' lv (vl (lAnd x y) :: st) h) : J L xs l own cc nL ini d Q rc rs pc lv (vl y :: vl x :: st) h := by
  subst hp
  intro p e R s m args below meth c H locs cells slots TC TS n0 n1 D cA ad ad0 base b t ls Z X hl hR
  refine lv_land X.1.1 X.1.2.1 dg ?_
  have k := k _ _ _ _ _ _ _ _ _ _ _ _ _ _ _ _ _ _ _ _ _ _ _ _ _ _ X hl hR
  simp only [List.map_cons, cv, lAnd, Int64.ofInt_toInt] at k
  exact k
theorem j_lor {x y : Int} (dg : decode cc pc = .ok (.lor, 1)) (hp : pc + 1 = pc') (k : J L xs l own cc nL ini d Q rc rs pc' lv (vl (lOr x y) :: st) h) : J L xs l own cc nL ini d Q rc rs pc lv (vl y :: vl x :: st) h := by
  subst hp
  intro p e R s m args below meth c H locs cells slots TC TS n0 n1 D cA ad ad0 base b t ls Z X hl hR
  refine lv_lor X.1.1 X.1.2.1 dg ?_
  have k := k _ _ _ _ _ _ _ _ _ _ _ _ _ _ _ _ _ _ _ _ _ _ _ _ _ _ X hl hR
  simp only [List.map_cons, cv, lOr, Int64.ofInt_toInt] at k
  exact k
theorem j_lshl {x y : Int} (dg : decode cc pc = .ok (.lshl, 1)) (hp : pc + 1 = pc') (k : J L xs l own cc nL ini d Q rc rs pc' lv (vl (lShl x y) :: st) h) : J L xs l own cc nL ini d Q rc rs pc lv (vi y :: vl x :: st) h := by
  subst hp
  intro p e R s m args below meth c H locs cells slots TC TS n0 n1 D cA ad ad0 base b t ls Z X hl hR
  refine lv_lshl X.1.1 X.1.2.1 dg rfl ?_
  have k := k _ _ _ _ _ _ _ _ _ _ _ _ _ _ _ _ _ _ _ _ _ _ _ _ _ _ X hl hR
  simp only [List.map_cons, cv, lShl, Int64.ofInt_toInt] at k
  exact k
theorem j_lshr {x y : Int} (dg : decode cc pc = .ok (.lshr, 1)) (hp : pc + 1 = pc') (k : J L xs l own cc nL ini d Q rc rs pc' lv (vl (lShr x y) :: st) h) : J L xs l own cc nL ini d Q rc rs pc lv (vi y :: vl x :: st) h := by
  subst hp
  intro p e R s m args below meth c H locs cells slots TC TS n0 n1 D cA ad ad0 base b t ls Z X hl hR
  refine lv_lshr X.1.1 X.1.2.1 dg rfl ?_
  have k := k _ _ _ _ _ _ _ _ _ _ _ _ _ _ _ _ _ _ _ _ _ _ _ _ _ _ X hl hR
  simp only [List.map_cons, cv, lShr, Int64.ofInt_toInt] at k
  exact k
theorem j_idiv {x y : Int} (dg : decode cc pc = .ok (.idiv, 1)) (hp : pc + 1 = pc') (hy : R32 y) (hz : y ≠ 0) (k : J L xs l own cc nL ini d Q rc rs pc' lv (vi (bDiv x y) :: st) h) : J L xs l own cc nL ini d Q rc rs pc lv (vi y :: vi x :: st) h := by
  subst hp
  intro p e R s m args below meth c H locs cells slots TC TS n0 n1 D cA ad ad0 base b t ls Z X hl hR
  refine lv_idiv X.1.1 X.1.2.1 dg (fun z => hz ((i32_nz hy).mp z)) ?_
  have k := k _ _ _ _ _ _ _ _ _ _ _ _ _ _ _ _ _ _ _ _ _ _ _ _ _ _ X hl hR
  simp only [List.map_cons, cv, bDiv, Int32.ofInt_toInt] at k
  exact k
theorem j_irem {x y : Int} (dg : decode cc pc = .ok (.irem, 1)) (hp : pc + 1 = pc') (hy : R32 y) (hz : y ≠ 0) (k : J L xs l own cc nL ini d Q rc rs pc' lv (vi (bRem x y) :: st) h) : J L xs l own cc nL ini d Q rc rs pc lv (vi y :: vi x :: st) h := by
  subst hp
  intro p e R s m args below meth c H locs cells slots TC TS n0 n1 D cA ad ad0 base b t ls Z X hl hR
  refine lv_irem X.1.1 X.1.2.1 dg (fun z => hz ((i32_nz hy).mp z)) ?_
  have k := k _ _ _ _ _ _ _ _ _ _ _ _ _ _ _ _ _ _ _ _ _ _ _ _ _ _ X hl hR
  simp only [List.map_cons, cv, bRem, Int32.ofInt_toInt] at k
  exact k
theorem i64_nz {x : Int} (hx : R64 x) : Int64.ofInt x = 0 ↔ x = 0 := by
  have := i64_eq hx (y := 0) ⟨by decide, by decide⟩
  rwa [show Int64.ofInt 0 = 0 from rfl] at this
theorem j_ldiv {x y : Int} (dg : decode cc pc = .ok (.ldiv, 1)) (hp : pc + 1 = pc') (hy : R64 y) (hz : y ≠ 0) (k : J L xs l own cc nL ini d Q rc rs pc' lv (vl (lDiv x y) :: st) h) : J L xs l own cc nL ini d Q rc rs pc lv (vl y :: vl x :: st) h := by
  subst hp
  intro p e R s m args below meth c H locs cells slots TC TS n0 n1 D cA ad ad0 base b t ls Z X hl hR
  refine lv_ldiv X.1.1 X.1.2.1 dg (fun z => hz ((i64_nz hy).mp z)) ?_
  have k := k _ _ _ _ _ _ _ _ _ _ _ _ _ _ _ _ _ _ _ _ _ _ _ _ _ _ X hl hR
  simp only [List.map_cons, cv, lDiv, Int64.ofInt_toInt] at k
  exact k
theorem j_ineg {x : Int} (dg : decode cc pc = .ok (.ineg, 1)) (hp : pc + 1 = pc') (k : J L xs l own cc nL ini d Q rc rs pc' lv (vi (-x) :: st) h) : J L xs l own cc nL ini d Q rc rs pc lv (vi x :: st) h := by
  subst hp
  intro p e R s m args below meth c H locs cells slots TC TS n0 n1 D cA ad ad0 base b t ls Z X hl hR
  refine lv_ineg X.1.1 X.1.2.1 dg ?_
  have k := k _ _ _ _ _ _ _ _ _ _ _ _ _ _ _ _ _ _ _ _ _ _ _ _ _ _ X hl hR
  simp only [List.map_cons, cv, Int32.ofInt_neg] at k
  simpa using k
theorem j_i2l {x : Int} (dg : decode cc pc = .ok (.i2l, 1)) (hp : pc + 1 = pc') (hx : R32 x) (k : J L xs l own cc nL ini d Q rc rs pc' lv (vl x :: st) h) : J L xs l own cc nL ini d Q rc rs pc lv (vi x :: st) h := by
  subst hp
  intro p e R s m args below meth c H locs cells slots TC TS n0 n1 D cA ad ad0 base b t ls Z X hl hR
  refine lv_i2l X.1.1 X.1.2.1 dg (i32_toL hx) ?_
  exact k _ _ _ _ _ _ _ _ _ _ _ _ _ _ _ _ _ _ _ _ _ _ _ _ _ _ X hl hR
theorem j_l2i {x : Int} (dg : decode cc pc = .ok (.l2i, 1)) (hp : pc + 1 = pc') (k : J L xs l own cc nL ini d Q rc rs pc' lv (vi (l2w x) :: st) h) : J L xs l own cc nL ini d Q rc rs pc lv (vl x :: st) h := by
  subst hp
  intro p e R s m args below meth c H locs cells slots TC TS n0 n1 D cA ad ad0 base b t ls Z X hl hR
  refine lv_l2i X.1.1 X.1.2.1 dg rfl ?_
  have k := k _ _ _ _ _ _ _ _ _ _ _ _ _ _ _ _ _ _ _ _ _ _ _ _ _ _ X hl hR
  simp only [List.map_cons, cv, l2w, Int32.ofInt_toInt] at k
  exact k
theorem j_i2b {x : Int} (dg : decode cc pc = .ok (.i2b, 1)) (hp : pc + 1 = pc') (k : J L xs l own cc nL ini d Q rc rs pc' lv (vi (w8 x) :: st) h) : J L xs l own cc nL ini d Q rc rs pc lv (vi x :: st) h := by
  subst hp
  intro p e R s m args below meth c H locs cells slots TC TS n0 n1 D cA ad ad0 base b t ls Z X hl hR
  refine lv_i2b X.1.1 X.1.2.1 dg rfl ?_
  have k := k _ _ _ _ _ _ _ _ _ _ _ _ _ _ _ _ _ _ _ _ _ _ _ _ _ _ X hl hR
  simp only [List.map_cons, cv, w8, Int32.ofInt_toInt] at k
  exact k
theorem j_i2s {x : Int} (dg : decode cc pc = .ok (.i2s, 1)) (hp : pc + 1 = pc') (k : J L xs l own cc nL ini d Q rc rs pc' lv (vi (w16 x) :: st) h) : J L xs l own cc nL ini d Q rc rs pc lv (vi x :: st) h := by
  subst hp
  intro p e R s m args below meth c H locs cells slots TC TS n0 n1 D cA ad ad0 base b t ls Z X hl hR
  refine lv_i2s X.1.1 X.1.2.1 dg rfl ?_
  have k := k _ _ _ _ _ _ _ _ _ _ _ _ _ _ _ _ _ _ _ _ _ _ _ _ _ _ X hl hR
  simp only [List.map_cons, cv, w16, Int32.ofInt_toInt] at k
  exact k
theorem jl_cmp_eq {x y : Int} (hx : R64 x) (hy : R64 y) : lg_cmp (Int64.ofInt x) (Int64.ofInt y) = Int32.ofInt (lCmp x y) := by
  unfold lg_cmp lCmp
  have hlt : (Int64.ofInt x > Int64.ofInt y) ↔ y < x := i64_lt hy hx
  by_cases h1 : x < y
  · rw [if_neg (by rw [hlt]; omega), if_neg (by rw [i64_eq hx hy]; omega), if_pos h1]; rfl
  · by_cases h2 : x = y
    · subst h2
      rw [if_neg (by rw [hlt]; omega), if_pos rfl, if_neg h1, if_pos rfl]; rfl
    · rw [if_pos (by rw [hlt]; omega), if_neg h1, if_neg h2]; rfl
theorem j_lcmp {x y : Int} (dg : decode cc pc = .ok (.lcmp, 1)) (hp : pc + 1 = pc') (hx : R64 x) (hy : R64 y) (k : J L xs l own cc nL ini d Q rc rs pc' lv (vi (lCmp x y) :: st) h) : J L xs l own cc nL ini d Q rc rs pc lv (vl y :: vl x :: st) h := by
  subst hp
  intro p e R s m args below meth c H locs cells slots TC TS n0 n1 D cA ad ad0 base b t ls Z X hl hR
  refine W.lcmp X.1.1 X.1.2.1 dg ?_
  rw [jl_cmp_eq hx hy]
  exact k _ _ _ _ _ _ _ _ _ _ _ _ _ _ _ _ _ _ _ _ _ _ _ _ _ _ X hl hR
theorem j_dup {v : AV} (dg : decode cc pc = .ok (.dup, 1)) (hp : pc + 1 = pc') (hv : catv v = 1) (k : J L xs l own cc nL ini d Q rc rs pc' lv (v :: v :: st) h) : J L xs l own cc nL ini d Q rc rs pc lv (v :: st) h := by
  subst hp
  intro p e R s m args below meth c H locs cells slots TC TS n0 n1 D cA ad ad0 base b t ls Z X hl hR
  refine lv_dup X.1.1 X.1.2.1 dg (by rw [cv_cat]; exact hv) ?_
  exact k _ _ _ _ _ _ _ _ _ _ _ _ _ _ _ _ _ _ _ _ _ _ _ _ _ _ X hl hR
theorem j_dup2 {v w : AV} (dg : decode cc pc = .ok (.dup2, 1)) (hp : pc + 1 = pc') (hv : catv v = 1) (hw : catv w = 1) (k : J L xs l own cc nL ini d Q rc rs pc' lv (v :: w :: v :: w :: st) h) : J L xs l own cc nL ini d Q rc rs pc lv (v :: w :: st) h := by
  subst hp
  intro p e R s m args below meth c H locs cells slots TC TS n0 n1 D cA ad ad0 base b t ls Z X hl hR
  refine lv_dup2_11 X.1.1 X.1.2.1 dg (by rw [cv_cat]; exact hv) (by rw [cv_cat]; exact hw) ?_
  exact k _ _ _ _ _ _ _ _ _ _ _ _ _ _ _ _ _ _ _ _ _ _ _ _ _ _ X hl hR
theorem j_pop {v : AV} (dg : decode cc pc = .ok (.pop, 1)) (hp : pc + 1 = pc') (hv : catv v = 1) (k : J L xs l own cc nL ini d Q rc rs pc' lv (st) h) : J L xs l own cc nL ini d Q rc rs pc lv (v :: st) h := by
  subst hp
  intro p e R s m args below meth c H locs cells slots TC TS n0 n1 D cA ad ad0 base b t ls Z X hl hR
  refine lv_pop X.1.1 X.1.2.1 dg (by rw [cv_cat]; exact hv) ?_
  exact k _ _ _ _ _ _ _ _ _ _ _ _ _ _ _ _ _ _ _ _ _ _ _ _ _ _ X hl hR
theorem z32 : R32 0 := ⟨by decide, by decide⟩
theorem j_icmp_eq {x y off : Int} {tgt : Nat} (dg : decode cc pc = .ok (.if_icmp .eq off, 3)) (ht : (pc : Int) + off = (tgt : Int)) (hp : pc + 3 = pc') (hx : R32 x) (hy : R32 y) (kt : x = y → J L xs l own cc nL ini d Q rc rs tgt lv st h) (kf : ¬ (x = y) → J L xs l own cc nL ini d Q rc rs pc' lv st h) : J L xs l own cc nL ini d Q rc rs pc lv (vi y :: vi x :: st) h := by
  subst hp
  intro p e R s m args below meth c H locs cells slots TC TS n0 n1 D cA ad ad0 base b t ls Z X hl hR
  refine lv_icmp_eq X.1.1 X.1.2.1 dg ht (fun z => ?_) (fun z => ?_)
  · exact kt ((i32_eq hx hy).mp z) _ _ _ _ _ _ _ _ _ _ _ _ _ _ _ _ _ _ _ _ _ _ _ _ _ _ X hl hR
  · exact kf (fun q => z ((i32_eq hx hy).mpr q)) _ _ _ _ _ _ _ _ _ _ _ _ _ _ _ _ _ _ _ _ _ _ _ _ _ _ X hl hR
theorem j_if_eq {x off : Int} {tgt : Nat} (dg : decode cc pc = .ok (.ifCond .eq off, 3)) (ht : (pc : Int) + off = (tgt : Int)) (hp : pc + 3 = pc') (hx : R32 x) (kt : x = 0 → J L xs l own cc nL ini d Q rc rs tgt lv st h) (kf : ¬ (x = 0) → J L xs l own cc nL ini d Q rc rs pc' lv st h) : J L xs l own cc nL ini d Q rc rs pc lv (vi x :: st) h := by
  subst hp
  intro p e R s m args below meth c H locs cells slots TC TS n0 n1 D cA ad ad0 base b t ls Z X hl hR
  refine lv_if_eq X.1.1 X.1.2.1 dg ht (fun z => ?_) (fun z => ?_)
  · exact kt ((i32_eq hx z32).mp z) _ _ _ _ _ _ _ _ _ _ _ _ _ _ _ _ _ _ _ _ _ _ _ _ _ _ X hl hR
  · exact kf (fun q => z ((i32_eq hx z32).mpr q)) _ _ _ _ _ _ _ _ _ _ _ _ _ _ _ _ _ _ _ _ _ _ _ _ _ _ X hl hR
theorem j_icmp_ne {x y off : Int} {tgt : Nat} (dg : decode cc pc = .ok (.if_icmp .ne off, 3)) (ht : (pc : Int) + off = (tgt : Int)) (hp : pc + 3 = pc') (hx : R32 x) (hy : R32 y) (kt : ¬ x = y → J L xs l own cc nL ini d Q rc rs tgt lv st h) (kf : x = y → J L xs l own cc nL ini d Q rc rs pc' lv st h) : J L xs l own cc nL ini d Q rc rs pc lv (vi y :: vi x :: st) h := by
  subst hp
  intro p e R s m args below meth c H locs cells slots TC TS n0 n1 D cA ad ad0 base b t ls Z X hl hR
  refine lv_icmp_ne X.1.1 X.1.2.1 dg ht (fun z => ?_) (fun z => ?_)
  · exact kt ((not_congr (i32_eq hx hy)).mp z) _ _ _ _ _ _ _ _ _ _ _ _ _ _ _ _ _ _ _ _ _ _ _ _ _ _ X hl hR
  · exact kf ((i32_eq hx hy).mp z) _ _ _ _ _ _ _ _ _ _ _ _ _ _ _ _ _ _ _ _ _ _ _ _ _ _ X hl hR
theorem j_if_ne {x off : Int} {tgt : Nat} (dg : decode cc pc = .ok (.ifCond .ne off, 3)) (ht : (pc : Int) + off = (tgt : Int)) (hp : pc + 3 = pc') (hx : R32 x) (kt : ¬ x = 0 → J L xs l own cc nL ini d Q rc rs tgt lv st h) (kf : x = 0 → J L xs l own cc nL ini d Q rc rs pc' lv st h) : J L xs l own cc nL ini d Q rc rs pc lv (vi x :: st) h := by
  subst hp
  intro p e R s m args below meth c H locs cells slots TC TS n0 n1 D cA ad ad0 base b t ls Z X hl hR
  refine lv_if_ne X.1.1 X.1.2.1 dg ht (fun z => ?_) (fun z => ?_)
  · exact kt ((not_congr (i32_eq hx z32)).mp z) _ _ _ _ _ _ _ _ _ _ _ _ _ _ _ _ _ _ _ _ _ _ _ _ _ _ X hl hR
  · exact kf ((i32_eq hx z32).mp z) _ _ _ _ _ _ _ _ _ _ _ _ _ _ _ _ _ _ _ _ _ _ _ _ _ _ X hl hR
theorem j_icmp_lt {x y off : Int} {tgt : Nat} (dg : decode cc pc = .ok (.if_icmp .lt off, 3)) (ht : (pc : Int) + off = (tgt : Int)) (hp : pc + 3 = pc') (hx : R32 x) (hy : R32 y) (kt : x < y → J L xs l own cc nL ini d Q rc rs tgt lv st h) (kf : ¬ (x < y) → J L xs l own cc nL ini d Q rc rs pc' lv st h) : J L xs l own cc nL ini d Q rc rs pc lv (vi y :: vi x :: st) h := by
  subst hp
  intro p e R s m args below meth c H locs cells slots TC TS n0 n1 D cA ad ad0 base b t ls Z X hl hR
  refine lv_icmp_lt X.1.1 X.1.2.1 dg ht (fun z => ?_) (fun z => ?_)
  · exact kt ((i32_lt hx hy).mp z) _ _ _ _ _ _ _ _ _ _ _ _ _ _ _ _ _ _ _ _ _ _ _ _ _ _ X hl hR
  · exact kf (fun q => z ((i32_lt hx hy).mpr q)) _ _ _ _ _ _ _ _ _ _ _ _ _ _ _ _ _ _ _ _ _ _ _ _ _ _ X hl hR
theorem j_if_lt {x off : Int} {tgt : Nat} (dg : decode cc pc = .ok (.ifCond .lt off, 3)) (ht : (pc : Int) + off = (tgt : Int)) (hp : pc + 3 = pc') (hx : R32 x) (kt : x < 0 → J L xs l own cc nL ini d Q rc rs tgt lv st h) (kf : ¬ (x < 0) → J L xs l own cc nL ini d Q rc rs pc' lv st h) : J L xs l own cc nL ini d Q rc rs pc lv (vi x :: st) h := by
  subst hp
  intro p e R s m args below meth c H locs cells slots TC TS n0 n1 D cA ad ad0 base b t ls Z X hl hR
  refine lv_if_lt X.1.1 X.1.2.1 dg ht (fun z => ?_) (fun z => ?_)
  · exact kt ((i32_lt hx z32).mp z) _ _ _ _ _ _ _ _ _ _ _ _ _ _ _ _ _ _ _ _ _ _ _ _ _ _ X hl hR
  · exact kf (fun q => z ((i32_lt hx z32).mpr q)) _ _ _ _ _ _ _ _ _ _ _ _ _ _ _ _ _ _ _ _ _ _ _ _ _ _ X hl hR
theorem j_icmp_ge {x y off : Int} {tgt : Nat} (dg : decode cc pc = .ok (.if_icmp .ge off, 3)) (ht : (pc : Int) + off = (tgt : Int)) (hp : pc + 3 = pc') (hx : R32 x) (hy : R32 y) (kt : y ≤ x → J L xs l own cc nL ini d Q rc rs tgt lv st h) (kf : ¬ (y ≤ x) → J L xs l own cc nL ini d Q rc rs pc' lv st h) : J L xs l own cc nL ini d Q rc rs pc lv (vi y :: vi x :: st) h := by
  subst hp
  intro p e R s m args below meth c H locs cells slots TC TS n0 n1 D cA ad ad0 base b t ls Z X hl hR
  refine lv_icmp_ge X.1.1 X.1.2.1 dg ht (fun z => ?_) (fun z => ?_)
  · exact kt ((i32_le hy hx).mp z) _ _ _ _ _ _ _ _ _ _ _ _ _ _ _ _ _ _ _ _ _ _ _ _ _ _ X hl hR
  · exact kf (fun q => z ((i32_le hy hx).mpr q)) _ _ _ _ _ _ _ _ _ _ _ _ _ _ _ _ _ _ _ _ _ _ _ _ _ _ X hl hR
theorem j_if_ge {x off : Int} {tgt : Nat} (dg : decode cc pc = .ok (.ifCond .ge off, 3)) (ht : (pc : Int) + off = (tgt : Int)) (hp : pc + 3 = pc') (hx : R32 x) (kt : 0 ≤ x → J L xs l own cc nL ini d Q rc rs tgt lv st h) (kf : ¬ (0 ≤ x) → J L xs l own cc nL ini d Q rc rs pc' lv st h) : J L xs l own cc nL ini d Q rc rs pc lv (vi x :: st) h := by
  subst hp
  intro p e R s m args below meth c H locs cells slots TC TS n0 n1 D cA ad ad0 base b t ls Z X hl hR
  refine lv_if_ge X.1.1 X.1.2.1 dg ht (fun z => ?_) (fun z => ?_)
  · exact kt ((i32_le z32 hx).mp z) _ _ _ _ _ _ _ _ _ _ _ _ _ _ _ _ _ _ _ _ _ _ _ _ _ _ X hl hR
  · exact kf (fun q => z ((i32_le z32 hx).mpr q)) _ _ _ _ _ _ _ _ _ _ _ _ _ _ _ _ _ _ _ _ _ _ _ _ _ _ X hl hR
theorem j_icmp_gt {x y off : Int} {tgt : Nat} (dg : decode cc pc = .ok (.if_icmp .gt off, 3)) (ht : (pc : Int) + off = (tgt : Int)) (hp : pc + 3 = pc') (hx : R32 x) (hy : R32 y) (kt : y < x → J L xs l own cc nL ini d Q rc rs tgt lv st h) (kf : ¬ (y < x) → J L xs l own cc nL ini d Q rc rs pc' lv st h) : J L xs l own cc nL ini d Q rc rs pc lv (vi y :: vi x :: st) h := by
  subst hp
  intro p e R s m args below meth c H locs cells slots TC TS n0 n1 D cA ad ad0 base b t ls Z X hl hR
  refine lv_icmp_gt X.1.1 X.1.2.1 dg ht (fun z => ?_) (fun z => ?_)
  · exact kt ((i32_lt hy hx).mp z) _ _ _ _ _ _ _ _ _ _ _ _ _ _ _ _ _ _ _ _ _ _ _ _ _ _ X hl hR
  · exact kf (fun q => z ((i32_lt hy hx).mpr q)) _ _ _ _ _ _ _ _ _ _ _ _ _ _ _ _ _ _ _ _ _ _ _ _ _ _ X hl hR
theorem j_if_gt {x off : Int} {tgt : Nat} (dg : decode cc pc = .ok (.ifCond .gt off, 3)) (ht : (pc : Int) + off = (tgt : Int)) (hp : pc + 3 = pc') (hx : R32 x) (kt : 0 < x → J L xs l own cc nL ini d Q rc rs tgt lv st h) (kf : ¬ (0 < x) → J L xs l own cc nL ini d Q rc rs pc' lv st h) : J L xs l own cc nL ini d Q rc rs pc lv (vi x :: st) h := by
  subst hp
  intro p e R s m args below meth c H locs cells slots TC TS n0 n1 D cA ad ad0 base b t ls Z X hl hR
  refine lv_if_gt X.1.1 X.1.2.1 dg ht (fun z => ?_) (fun z => ?_)
  · exact kt ((i32_lt z32 hx).mp z) _ _ _ _ _ _ _ _ _ _ _ _ _ _ _ _ _ _ _ _ _ _ _ _ _ _ X hl hR
  · exact kf (fun q => z ((i32_lt z32 hx).mpr q)) _ _ _ _ _ _ _ _ _ _ _ _ _ _ _ _ _ _ _ _ _ _ _ _ _ _ X hl hR
theorem j_icmp_le {x y off : Int} {tgt : Nat} (dg : decode cc pc = .ok (.if_icmp .le off, 3)) (ht : (pc : Int) + off = (tgt : Int)) (hp : pc + 3 = pc') (hx : R32 x) (hy : R32 y) (kt : x ≤ y → J L xs l own cc nL ini d Q rc rs tgt lv st h) (kf : ¬ (x ≤ y) → J L xs l own cc nL ini d Q rc rs pc' lv st h) : J L xs l own cc nL ini d Q rc rs pc lv (vi y :: vi x :: st) h := by
  subst hp
  intro p e R s m args below meth c H locs cells slots TC TS n0 n1 D cA ad ad0 base b t ls Z X hl hR
  refine lv_icmp_le X.1.1 X.1.2.1 dg ht (fun z => ?_) (fun z => ?_)
  · exact kt ((i32_le hx hy).mp z) _ _ _ _ _ _ _ _ _ _ _ _ _ _ _ _ _ _ _ _ _ _ _ _ _ _ X hl hR
  · exact kf (fun q => z ((i32_le hx hy).mpr q)) _ _ _ _ _ _ _ _ _ _ _ _ _ _ _ _ _ _ _ _ _ _ _ _ _ _ X hl hR
theorem j_if_le {x off : Int} {tgt : Nat} (dg : decode cc pc = .ok (.ifCond .le off, 3)) (ht : (pc : Int) + off = (tgt : Int)) (hp : pc + 3 = pc') (hx : R32 x) (kt : x ≤ 0 → J L xs l own cc nL ini d Q rc rs tgt lv st h) (kf : ¬ (x ≤ 0) → J L xs l own cc nL ini d Q rc rs pc' lv st h) : J L xs l own cc nL ini d Q rc rs pc lv (vi x :: st) h := by
  subst hp
  intro p e R s m args below meth c H locs cells slots TC TS n0 n1 D cA ad ad0 base b t ls Z X hl hR
  refine lv_if_le X.1.1 X.1.2.1 dg ht (fun z => ?_) (fun z => ?_)
  · exact kt ((i32_le hx z32).mp z) _ _ _ _ _ _ _ _ _ _ _ _ _ _ _ _ _ _ _ _ _ _ _ _ _ _ X hl hR
  · exact kf (fun q => z ((i32_le hx z32).mpr q)) _ _ _ _ _ _ _ _ _ _ _ _ _ _ _ _ _ _ _ _ _ _ _ _ _ _ X hl hR
theorem j_goto {off : Int} {tgt : Nat} (dg : decode cc pc = .ok (.goto off, 3)) (ht : (pc : Int) + off = (tgt : Int)) (k : J L xs l own cc nL ini d Q rc rs tgt lv st h) : J L xs l own cc nL ini d Q rc rs pc lv st h := by
  intro p e R s m args below meth c H locs cells slots TC TS n0 n1 D cA ad ad0 base b t ls Z X hl hR
  refine lv_goto X.1.1 X.1.2.1 dg ht ?_
  exact k _ _ _ _ _ _ _ _ _ _ _ _ _ _ _ _ _ _ _ _ _ _ _ _ _ _ X hl hR
theorem j_tabIn {dflt lo hi x off : Int} {offs : Array Int} {len tgt : Nat} (dg : decode cc pc = .ok (.tableswitch dflt lo hi offs, len)) (hx : R32 x) (h1 : ¬ x < lo) (h2 : ¬ hi < x) (ho : offs[(x - lo).toNat]? = some off) (ht : (pc : Int) + off = (tgt : Int)) (k : J L xs l own cc nL ini d Q rc rs tgt lv st h) : J L xs l own cc nL ini d Q rc rs pc lv (vi x :: st) h := by
  intro p e R s m args below meth c H locs cells slots TC TS n0 n1 D cA ad ad0 base b t ls Z X hl hR
  refine lv_tableIn X.1.1 X.1.2.1 dg (by rw [i32_to hx]; exact h1) (by rw [i32_to hx]; exact h2) (by rw [i32_to hx]; exact ho) ht ?_
  exact k _ _ _ _ _ _ _ _ _ _ _ _ _ _ _ _ _ _ _ _ _ _ _ _ _ _ X hl hR
theorem j_tabOut {dflt lo hi x : Int} {offs : Array Int} {len tgt : Nat} (dg : decode cc pc = .ok (.tableswitch dflt lo hi offs, len)) (hx : R32 x) (h1 : x < lo ∨ hi < x) (ht : (pc : Int) + dflt = (tgt : Int)) (k : J L xs l own cc nL ini d Q rc rs tgt lv st h) : J L xs l own cc nL ini d Q rc rs pc lv (vi x :: st) h := by
  intro p e R s m args below meth c H locs cells slots TC TS n0 n1 D cA ad ad0 base b t ls Z X hl hR
  refine lv_tableOut X.1.1 X.1.2.1 dg (by rw [i32_to hx]; exact h1) ht ?_
  exact k _ _ _ _ _ _ _ _ _ _ _ _ _ _ _ _ _ _ _ _ _ _ _ _ _ _ X hl hR
theorem j_ifnonnull {q : Nat} {off : Int} {tgt : Nat} (dg : decode cc pc = .ok (.ifnonnull off, 3)) (ht : (pc : Int) + off = (tgt : Int)) (hp : pc + 3 = pc') (kt : q ≠ 0 → J L xs l own cc nL ini d Q rc rs tgt lv st h) (kf : q = 0 → J L xs l own cc nL ini d Q rc rs pc' lv st h) : J L xs l own cc nL ini d Q rc rs pc lv (vr q :: st) h := by
  subst hp
  intro p e R s m args below meth c H locs cells slots TC TS n0 n1 D cA ad ad0 base b t ls Z X hl hR
  by_cases hq : q = 0
  · have h2 := kf hq
    subst hq
    refine lv_ifnonnullN X.1.1 X.1.2.1 dg ?_
    exact h2 _ _ _ _ _ _ _ _ _ _ _ _ _ _ _ _ _ _ _ _ _ _ _ _ _ _ X hl hR
  · have h2 : cv ad (vr q) = .ref (ad q) := if_neg hq
    show W _ _ _ _ _ _ _ _ _ _ _ _ _ _ _ (F0 m pc ls (cv ad (vr q) :: st.map (cv ad)))
    rw [h2]
    refine lv_ifnonnull X.1.1 X.1.2.1 dg ht ?_
    exact kt hq _ _ _ _ _ _ _ _ _ _ _ _ _ _ _ _ _ _ _ _ _ _ _ _ _ _ X hl hR
-- returns
theorem j_iret {z : Int} (dg : decode cc pc = .ok (.ireturn, 1)) (hz : R32 z) (hq : Q (vi z) h) : J L xs l own cc nL ini d Q rc rs pc lv [vi z] h := by
  intro p e R s m args below meth c H locs cells slots TC TS n0 n1 D cA ad ad0 base b t ls Z X hl hR
  obtain ⟨x1, ⟨y1, y2, y3, y4, y5, y6, y7, y8, y9, y10⟩, x3, x4, x5⟩ := X
  exact hR (vi z) h cA ad H locs cells slots pc ls hq hz y7 (by omega) y10 x4 x5 (by omega) (by omega) (Or.inl ⟨z, rfl, dg⟩)
theorem j_lret {z : Int} (dg : decode cc pc = .ok (.lreturn, 1)) (hz : R64 z) (hq : Q (vl z) h) : J L xs l own cc nL ini d Q rc rs pc lv [vl z] h := by
  intro p e R s m args below meth c H locs cells slots TC TS n0 n1 D cA ad ad0 base b t ls Z X hl hR
  obtain ⟨x1, ⟨y1, y2, y3, y4, y5, y6, y7, y8, y9, y10⟩, x3, x4, x5⟩ := X
  exact hR (vl z) h cA ad H locs cells slots pc ls hq hz y7 (by omega) y10 x4 x5 (by omega) (by omega) (Or.inr (Or.inl ⟨z, rfl, dg⟩))
theorem j_vret (dg : decode cc pc = .ok (.return_, 1)) (hq : Q vu h) : J L xs l own cc nL ini d Q rc rs pc lv [] h := by
  intro p e R s m args below meth c H locs cells slots TC TS n0 n1 D cA ad ad0 base b t ls Z X hl hR
  obtain ⟨x1, ⟨y1, y2, y3, y4, y5, y6, y7, y8, y9, y10⟩, x3, x4, x5⟩ := X
  exact hR vu h cA ad H locs cells slots pc ls hq trivial y7 (by omega) y10 x4 x5 (by omega) (by omega) (Or.inr (Or.inr ⟨rfl, dg⟩))
end
