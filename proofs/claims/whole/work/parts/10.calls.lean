theorem aok_moved {u U : State} (hvm : u.vm.Alike U.vm) {cA : ClassId} {c : AC} (h : aok u cA c) : aok U cA c := by
  match c, h with
  | .inl (kd, n, f), h => exact ⟨h.1, arrOfT_moved hvm h.2.1, va_RA.moved hvm h.2.2⟩
  | .inr (.inl (ci, n, f)), h => exact ⟨arrOfT_moved hvm h.1, va_RA.moved hvm h.2⟩
  | .inr (.inr _), _ => trivial
theorem WO_moved {D : va_G} {cA ad : Nat → Nat} {base b t : Nat} {h : Hp} {u U : State} {H : Heap} (hvm : u.vm.Alike U.vm) (O : WO D cA ad base b t h u H) : WO D cA ad base b t h U H :=
  ⟨va_K.moved hvm O.1, fun k c hk => aok_moved hvm (O.2.1 k c hk), O.2.2⟩
theorem NW_warm {u U : State} (hW : u.WarmedH U.vm) (h : NW u) : NW U := by
  refine ⟨fun w hw => ?_, va_AO.moved hW.alike h.2.1, va_AO.moved hW.alike h.2.2⟩
  have h1 := (List.mem_filter.mp hw).2
  have h2 := h.1 w hw
  match w, h1, h2 with
  | .methodLinkNest _ _ _ _, _, h2 => exact va_Nw.warmM hW h2
theorem NW_same {u U : State} (hv : u.vm = U.vm) (h : NW u) : NW U := by
  refine ⟨fun w hw => ?_, va_AO.moved (by rw [hv]; exact Vm.Alike.refl _) h.2.1, va_AO.moved (by rw [hv]; exact Vm.Alike.refl _) h.2.2⟩
  have h1 := (List.mem_filter.mp hw).2
  have h2 := h.1 w hw
  match w, h1, h2 with
  | .methodLinkNest _ _ _ _, _, h2 => exact va_Nw.same rfl hv h2
theorem OL_warm {L : Nat} {xs : Nat → Int32} {b t base : Nat} {u U : State} {H : Heap} (hW : u.WarmedH U.vm) (O : OL L xs b t base u H) : OL L xs b t base U H :=
  ⟨va_X.moved hW.alike O.1, O.2.1, O.2.2.1, va_Z.moved hW.alike O.2.2.2.1, va_T.moved hW.alike O.2.2.2.2.1, NW_warm hW O.2.2.2.2.2⟩
theorem OL_same {L : Nat} {xs : Nat → Int32} {b t base : Nat} {u U : State} {H : Heap} (hv : u.vm = U.vm) (O : OL L xs b t base u H) : OL L xs b t base U H := by
  have hA : u.vm.Alike U.vm := by rw [hv]; exact Vm.Alike.refl _
  exact ⟨va_X.moved hA O.1, O.2.1, O.2.2.1, va_Z.moved hA O.2.2.2.1, va_T.moved hA O.2.2.2.2.1, NW_same hv O.2.2.2.2.2⟩
theorem OL_kept {L : Nat} {xs : Nat → Int32} {b t base : Nat} {u : State} {H H1 : Heap} {locs : List Loc} (hS : va_S (fun q => base ≤ q) H H1 locs) (O : OL L xs b t base u H) : OL L xs b t base u H1 :=
  ⟨va_X.kept O.1 (hS.2.1 b (Nat.lt_of_lt_of_le O.2.1 O.2.2.1) (Nat.not_le.mpr O.2.1)), O.2.1, Nat.le_trans O.2.2.1 hS.1, va_Z.kept O.2.2.2.1 hS.2.1, va_T.kept O.2.2.2.2.1 hS.2.1, O.2.2.2.2.2⟩
def rvo (r : AV) : Option Value := match r with
  | .inl (.inl z) => some (.int (Int32.ofInt z))
  | .inl (.inr z) => some (.long (Int64.ofInt z))
  | _ => none
def RO (ret : Option FieldType) (r : AV) : Prop := (ret = some .int ∧ ∃ z, r = vi z) ∨ (ret = some .boolean ∧ (r = vi 0 ∨ r = vi 1)) ∨ (ret = some .long ∧ ∃ z, r = vl z) ∨ (ret = none ∧ r = vu)
theorem RO_sh {ret : Option FieldType} {r : AV} (h : RO ret r) : (∃ z, r = vi z) ∨ (∃ z, r = vl z) ∨ r = vu := by
  rcases h with ⟨-, z⟩ | ⟨-, z⟩ | ⟨-, z⟩ | ⟨-, z⟩
  · exact Or.inl z
  · rcases z with z | z <;> exact Or.inl ⟨_, z⟩
  · exact Or.inr (Or.inl z)
  · exact Or.inr (Or.inr z)
def rmd (d mc ms : Nat) : Room := { frames := d, cells := mc, slots := ms, locals := 64 * d }
def alv : Nat → List AV → List (Nat × AV)
  | _, [] => []
  | i, v :: vs => (i, v) :: alv (if catv v = 2 then i + 2 else i + 1) vs
theorem alv_eq (ad : Nat → Nat) : ∀ (i : Nat) (vs : List AV), lvm ad (alv i vs) = lv_args i (vs.map (cv ad))
  | _, [] => rfl
  | i, v :: vs => by
    show (i, cv ad v) :: lvm ad (alv (if catv v = 2 then i + 2 else i + 1) vs) = (i, cv ad v) :: lv_args (if (cv ad v).category = 2 then i + 2 else i + 1) (vs.map (cv ad))
    rw [alv_eq ad, cv_cat]
def awid : List AV → Nat
  | [] => 0
  | v :: t => catv v + awid t
theorem awid_eq (ad : Nat → Nat) : ∀ vs : List AV, (lg_sl (vs.map (cv ad))).length = awid vs
  | [] => rfl
  | v :: t => by
    have ih := awid_eq ad t
    simp only [lg_sl, List.map_cons, List.flatMap_cons, List.length_append] at ih ⊢
    rw [ih, cv_cat]
    have : catv v = 1 ∨ catv v = 2 := by
      match v with
      | .inl (.inl _) => exact Or.inl rfl
      | .inl (.inr _) => exact Or.inr rfl
      | .inr _ => exact Or.inl rfl
    rcases this with z | z <;> simp [awid, z]
def PcC (L : Nat) (xs : Nat → Int32) (D : va_G) (cA ad : Nat → Nat) (base b t : Nat) (h : Hp) (vs : List AV) : Array Value → State → Prop := fun v U => v = (vs.map (cv ad)).toArray ∧ OL L xs b t base U U.heap ∧ WO D cA ad base b t h U U.heap
def QcC (D : va_G) (ad : Nat → Nat) (base b t : Nat) (h : Hp) (mc : Nat) (Q : AV → Hp → Prop) : Array Value → State → Outcome → State → Prop := fun _ st oc tt => (∃ (r : AV) (h' : Hp) (cA' ad' : Nat → Nat), oc = .returned (rvo r) ∧ Q r h' ∧ avk 0 r ∧ h.1 ≤ h'.1 ∧ h'.1 ≤ h.1 + mc ∧ (∀ k : Nat, k ≤ h.1 → ad' k = ad k) ∧ WO D cA' ad' base b t h' tt tt.heap) ∧ va_F (fun q => base ≤ q) st tt
theorem PcC_blind {L : Nat} {xs : Nat → Int32} {D : va_G} {cA ad : Nat → Nat} {base b t : Nat} {h : Hp} {vs : List AV} : FrameBlind (PcC L xs D cA ad base b t h vs) := by
  intro a U g mk ⟨q1, q2, q3⟩
  exact ⟨q1, OL_same (u := U) (U := U.calling g mk a) rfl q2, WO_moved (u := U) (U := U.calling g mk a) (Vm.Alike.refl U.vm) q3⟩
theorem code_good (y : MethodName) (cc : ByteArray) (nL : Nat) (ret : Option FieldType) (hc : Cond.code y cc nL ret ∈ gtb) : GoodIn gtb (.code y cc nL ret :: gtb) := by
  intro w hw
  rcases List.mem_cons.mp hw with rfl | hw
  · exact ⟨hc, good_of_word ((List.mem_filter.mp hc).2)⟩
  · exact ⟨hw, good_of_word ((List.mem_filter.mp hw).2)⟩
def YM (y : MethodName) (cc : ByteArray) (nL : Nat) (ret : Option FieldType) (n : Nat) : Prop := Cond.code y cc nL ret ∈ gtb ∧ Cond.initialized y.cls ∈ gtb ∧ nL ≤ 40 ∧ plainName y.cls = true ∧ (y.cls ≠ "java/lang/invoke/MethodHandle" ∧ y.cls ≠ "java/lang/invoke/VarHandle" ∧ (parseMethodDescriptor y.desc).map (fun d => d.parameters.length) = some n)
def YV (y : MethodName) (ci : Nat) : Prop := Cond.instanceMethod y ∈ gtb ∧ Cond.selects y.cls y y ∈ gtb ∧ ∃ r, vwCl[ci]? = some r ∧ r.1 = y.cls
def pushr (r : AV) (st : List AV) : List AV := match r with
  | .inr (.inr _) => st
  | v => v :: st
def cob (h : Hp) (ci q : Nat) : Option Unit := match h.2 q with
  | some (.inr (.inr (c, _))) => if c = ci then some () else none
  | _ => none
theorem cob_inv {h : Hp} {ci q : Nat} (e : cob h ci q = some ()) : ∃ fs, h.2 q = some (obj ci fs) := by
  unfold cob at e
  split at e
  · next c fs he =>
    split at e
    · next hc => subst hc; exact ⟨fs, he⟩
    · cases e
  · cases e
theorem catsum (ad : Nat → Nat) : ∀ st : List AV, ((st.map (cv ad)).map fun v => v.category).sum = (st.map catv).sum
  | [] => rfl
  | v :: t => by simp only [List.map_cons, List.sum_cons, cv_cat, catsum ad t]
theorem metOf {L : Nat} {xs : Nat → Int32} {l : Launch} {y : MethodName} {cc : ByteArray} {nL : Nat} {ret : Option FieldType} {ini : Bool} {d mc ms n : Nat} {Q : AV → Hp → Prop} {vs : List AV} {h : Hp} (D : va_G) (cA ad : Nat → Nat) (base b t : Nat)
    (hy : YM y cc nL ret n) (hini : ini = true → y.name = "<init>") (hret : ∀ r h', Q r h' → RO ret r) (hlen : awid vs ≤ nL) (hlim : h.1 + mc < 1000000) (hJ : J L xs l y.cls cc nL ini d Q mc ms 0 (alv 0 vs) [] h) :
    Met l y (.code y cc nL ret :: gtb) (rmd d mc ms) (PcC L xs D cA ad base b t h vs) (QcC D ad base b t h mc Q) mc ms (fun q => base ≤ q) := by
  refine Met.ofW (cc := cc) (maxL := nL) (ret := ret) hy.2.2.2.1 rfl ?_
  intro p en s m args below meth c s₁ B hml hv
  obtain ⟨rfl, hO, hW⟩ := hv
  have hx := B.exec
  have hb := B.bytes
  have hr := B.returns
  have hts := atoms_spec (ws := .code y cc nL ret :: gtb) B.pre
  have hown : s.vm.findClass y.cls = some m.cls := findClass_of_methodNamed B.named
  have hlocks := B.notSynchronized
  have hin := (name_of_methodNamed B.named B.method).1
  have hl := lv_entry (vs.map (cv ad)) (n := nL) (by rw [awid_eq]; exact hlen)
  rw [lg_entry_eq]
  refine hJ p en (rmd d mc ms) s m _ below meth c s.heap [] 0 0 mc ms h.1 (h.1 + mc) D cA ad ad base b t _ _ ⟨⟨hx, hb, hml, hown, fun w hw => hts w (List.mem_cons_of_mem _ hw), fun z => hin.trans (hini z)⟩, ⟨Nat.le_refl _, Nat.le_refl _, Nat.le_refl _, Nat.le_refl _, by omega, by omega, Nat.le_refl _, Nat.le_refl _, hlim, fun _ _ => rfl⟩, hO, hW, va_S.rf⟩ (by rw [alv_eq]; exact hl) ?_
  intro r h' cA' ad' H' locs' cells' slots' pc' ls' q1 q2 q3 q4 q5 q6 q7 q8 q9 q10
  refine W.widen (k := mc) (n := ms) q8 q9 ?_
  have hro := hret r h' q1
  rcases q10 with ⟨z, rfl, dg⟩ | ⟨z, rfl, dg⟩ | ⟨rfl, dg⟩
  · rcases hro with ⟨e1, -⟩ | ⟨e1, e2⟩ | ⟨-, z2, e2⟩ | ⟨-, e2⟩
    · subst e1
      exact W.iret hx hb hr (fun t2 ht hWm => ⟨⟨vi z, h', cA', ad', rfl, q1, q2, q3, q4, q5, by rw [ht]; exact WO_moved hWm.alike q6⟩, q7.F ht⟩) q7.2.2 dg
    · subst e1
      exact W.zret (ty := .boolean) hx hb hr (by rcases e2 with e2 | e2 <;> cases e2 <;> rfl) (fun t2 ht hWm => ⟨⟨vi z, h', cA', ad', rfl, q1, q2, q3, q4, q5, by rw [ht]; exact WO_moved hWm.alike q6⟩, q7.F ht⟩) q7.2.2 dg
    · cases e2
    · cases e2
  · rcases hro with ⟨e1, z2, e2⟩ | ⟨e1, e2⟩ | ⟨e1, -⟩ | ⟨-, e2⟩
    · cases e2
    · rcases e2 with e2 | e2 <;> cases e2
    · subst e1
      exact W.lret hx hb hr (fun t2 ht hWm => ⟨⟨vl z, h', cA', ad', rfl, q1, q2, q3, q4, q5, by rw [ht]; exact WO_moved hWm.alike q6⟩, q7.F ht⟩) q7.2.2 dg
    · cases e2
  · rcases hro with ⟨e1, z2, e2⟩ | ⟨e1, e2⟩ | ⟨e1, z2, e2⟩ | ⟨e1, -⟩
    · cases e2
    · rcases e2 with e2 | e2 <;> cases e2
    · cases e2
    · subst e1
      exact W.vret hx hb hr (fun t2 ht hWm => ⟨⟨vu, h', cA', ad', rfl, q1, q2, q3, q4, q5, by rw [ht]; exact WO_moved hWm.alike q6⟩, q7.F ht⟩) q7.2.2 dg
section
variable {L : Nat} {xs : Nat → Int32} {l : Launch} {own : String} {cc : ByteArray} {nL : Nat} {ini : Bool} {d : Nat} {Q : AV → Hp → Prop} {rc rs : Nat} {pc pc' : Nat} {lv lv' : List (Nat × AV)} {st stk : List AV} {h h' : Hp}
theorem run_go {Qf : AV → Hp → Prop} {mc ms : Nat} {p : Program} {en : Env} {R : Room} {s : State} {m : MethodId} {args : Array Value} {below : List Frame} {meth : Method} {c : Code} {H : Heap} {locs : List Loc} {cells slots TC TS n0 n1 : Nat} {D : va_G} {cA ad ad0 : Nat → Nat} {base b t : Nat} {ls : Array Slot} {Z : State → Prop} {st0 : List Value} {a : Array Value}
    (X : CT L xs own cc nL ini d (rc + mc) (rs + ms) h p R s m args meth c H locs cells slots TC TS n0 n1 D cA ad ad0 base b t) (hl : lv_has ls nL (lvm ad lv)) (hR : RT l cc Q p en R s m args below meth c TC TS n0 n1 D ad0 base b t Z)
    (hr : va_Run p l en R s m args below meth c H locs cells slots mc ms (F0 m pc ls st0) (st.map (cv ad)) (QcC D ad base b t h mc Qf a) (fun q => base ≤ q))
    (hret : ∀ r h', Qf r h' → (∃ z, r = vi z) ∨ (∃ z, r = vl z) ∨ r = vu) (hlive : mc = 0 ∨ (avs h.1 st ∧ avs h.1 (lv.map Prod.snd))) (kk : ∀ r h', Qf r h' → avk 0 r → h.1 ≤ h'.1 → h'.1 ≤ h.1 + mc → J L xs l own cc nL ini d Q rc rs (pc + 3) lv (pushr r st) h') : W p l en R s m args below meth c H locs cells slots Z (F0 m pc ls st0) := by
  intro T hT XS
  obtain ⟨v, st₀, t2, T', Lw, h0, X', hL, e1, e2, ⟨⟨r, h', cA', ad', hv, hq, hav, hn1, hn2, had, hWO⟩, hz, hk⟩, stp⟩ := hr T hT XS
  have hv : v = rvo r := by injection hv
  subst hv
  rw [h0] at hz hk
  obtain ⟨x1, ⟨y1, y2, y3, y4, y5, y6, y7, y8, y9, y10⟩, x3, O, S⟩ := X
  have hal : t2.vm.Alike s.vm := by rw [← e2]; exact X'.warmed.alike.symm
  have hsp : ∀ k, k ≤ h.1 ∨ 1000000 ≤ k → ad' k = ad k := by
    intro k hk
    rcases hk with hk | hk
    · exact had k hk
    · rw [hWO.2.2.2.2.2 k (by omega), O.2.2.2.2.2 k (by omega)]
  have hst : st.map (cv ad') = st.map (cv ad) ∧ lvm ad' lv = lvm ad lv := by
    rcases hlive with hm | ⟨a1, a2⟩
    · have : ad' = ad := by
        funext k
        by_cases hk : k ≤ h.1
        · exact had k hk
        · rw [hWO.2.2.2.2.2 k (by omega), O.2.2.2.2.2 k (by omega)]
      rw [this]; exact ⟨rfl, rfl⟩
    · exact ⟨cvs_ext hsp a1, lvm_ext hsp a2⟩
  have S1 : va_S (fun q => base ≤ q) s.heap T'.heap (locs ++ Lw) := ⟨Nat.le_trans S.1 (by rw [e1]; exact hz), fun q h1 h2 => by rw [e1, hk q (Nat.lt_of_lt_of_le h1 S.1) h2]; exact S.2.1 q h1 h2, fun q hq => by
      rcases List.mem_append.mp hq with z | z
      · exact S.2.2 q z
      · exact hL q z⟩
  have k2 := kk r h' hq hav hn1 hn2 p en R s m args below meth c T'.heap (locs ++ Lw) (cells + mc) (slots + ms) TC TS n0 n1 D cA' ad' ad0 base b t ls Z ⟨x1, ⟨y1, y2, y3, y4, by omega, by omega, Nat.le_trans y7 hn1, by omega, y9, fun k hk => by rw [had k (by omega)]; exact y10 k hk⟩, x3, (by rw [e1]; exact WO_moved hal hWO), S1⟩ (by rw [hst.2]; exact hl) hR
  have hrr := hret r h' hq
  have hps : (pushr r st).map (cv ad') = (rvo r).toList ++ st.map (cv ad) := by
    match r, hav with
    | .inl (.inl z), _ => show _ :: st.map (cv ad') = _ :: _; rw [hst.1]; rfl
    | .inl (.inr z), _ => show _ :: st.map (cv ad') = _ :: _; rw [hst.1]; rfl
    | .inr (.inl q), hav =>
      rcases hrr with z | z | z
      · obtain ⟨z, hz⟩ := z; cases hz
      · obtain ⟨z, hz⟩ := z; cases hz
      · cases z
    | .inr (.inr _), _ => exact hst.1
  rw [hps] at k2
  obtain ⟨t3, a1, b1⟩ := k2 T' rfl X'
  exact ⟨t3, stp t3 a1, b1⟩
theorem cB_of {y : MethodName} {ccY : ByteArray} {nLY : Nat} {ret : Option FieldType} {n dY mc ms ix : Nat} {R : Room} {s : State} {args : Array Value} (ht : ∀ w ∈ gtb, w.before args s = true) (hy : YM y ccY nLY ret n) (hlk : Cond.methodLink own ix y ∈ gtb) (hd : dY + 1 ≤ d) (h1 : d ≤ R.frames) (h2 : 64 * d ≤ R.locals) : CallB R s args own ix y ccY nLY ret (.code y ccY nLY ret :: gtb) (rmd dY mc ms) mc ms n :=
  callB_of n ht (code_good y ccY nLY ret hy.1) rfl rfl rfl (ht _ hy.2.1) (ht _ hlk) hy.2.2.2.2 ⟨by show dY + 1 ≤ _; omega, by have := hy.2.2.1; show 8 + (nLY + 11) + 64 * dY ≤ _; omega⟩
theorem j_callV {y : MethodName} {ccY : ByteArray} {nLY : Nat} {ret : Option FieldType} {dY mc ms ix ci q : Nat} {vs : List AV} {Qf : AV → Hp → Prop} (dg : decode cc pc = .ok (.invokevirtual ix, 3)) (hp : pc + 3 = pc') (hy : YM y ccY nLY ret vs.length) (hyv : YV y ci) (hlk : Cond.methodLink own ix y ∈ gtb) (hd : dY + 1 ≤ d) (hst : stk = vs.reverse ++ vr q :: st) (hsum : (st.map catv).sum ≤ 8) (hw : awid (vr q :: vs) ≤ nLY) (hob : cob h ci q = some ())
    (hret : ∀ r h', Qf r h' → RO ret r) (hlive : mc = 0 ∨ (avs h.1 st ∧ avs h.1 (lv.map Prod.snd))) (hJ : J L xs l y.cls ccY nLY false dY Qf mc ms 0 (alv 0 (vr q :: vs)) [] h) (kk : ∀ r h', Qf r h' → avk 0 r → h.1 ≤ h'.1 → h'.1 ≤ h.1 + mc → J L xs l own cc nL ini d Q rc rs pc' lv (pushr r st) h') : J L xs l own cc nL ini d Q (rc + mc) (rs + ms) pc lv stk h := by
  subst hp
  subst hst
  intro p en R s m args below meth c H locs cells slots TC TS n0 n1 D cA ad ad0 base b t ls Z X hl hR
  obtain ⟨fs, hq⟩ := cob_inv hob
  have O := X.2.2.2.1
  obtain ⟨y1, y2, y3, y4, y5, y6, y7, y8, y9, y10⟩ := X.2.1
  obtain ⟨h1, h2, h3⟩ := O.2.2.2.2.1.1 q _ hq
  obtain ⟨yv1, yv2, rr, yv3, yv4⟩ := hyv
  have hq0 : cv ad (vr q) = .ref (ad q) := if_neg (by omega)
  have hM := metOf D cA ad base b t hy (by intro z; cases z) hret hw (by omega) hJ
  have hcv : (vr q :: vs).map (cv ad) = Value.ref (ad q) :: vs.map (cv ad) := by rw [List.map_cons, hq0]
  refine run_go X hl hR (st := st) (mc := mc) (ms := ms) (Qf := Qf) (va_runV (C := y.cls) (b := ad q) (As := vs.map (cv ad)) ⟨X.1.1, X.1.2.1, X.1.2.2.1, X.1.2.2.2.1, X.1.2.2.2.2.1⟩ hM ⟨cB_of X.1.2.2.2.2.1 hy hlk hd y1 y2, X.1.2.2.2.2.1 _ yv1, X.1.2.2.2.2.1 _ yv2⟩ ⟨PcC_blind, ?_, ?_⟩ rfl (by rw [List.length_map]) hl.1 ?_ (lv_room (by rw [catsum]; exact hsum)) dg ⟨by omega, by omega⟩) (fun r h' z => RO_sh (hret r h' z)) hlive kk
  · rw [← yv4]
    exact va_recv O.1 O.2.2.1 yv3 (wsl_at O.2.2.2.2.1 hq)
  · intro U hU hWm
    refine ⟨by rw [← hcv], ?_, ?_⟩
    · rw [hU]; exact OL_warm hWm (OL_kept X.2.2.2.2 X.2.2.1)
    · rw [hU]; exact WO_moved hWm.alike O
  · show (vs.reverse ++ vr q :: st).map (cv ad) = _
    rw [List.map_append, List.map_cons, hq0, List.map_reverse]
theorem j_callS {y : MethodName} {ccY : ByteArray} {nLY : Nat} {ret : Option FieldType} {dY mc ms ix : Nat} {vs : List AV} {Qf : AV → Hp → Prop} (dg : decode cc pc = .ok (.invokestatic ix, 3)) (hp : pc + 3 = pc') (hy : YM y ccY nLY ret vs.length) (hys : Cond.static y ∈ gtb) (hlk : Cond.methodLink own ix y ∈ gtb) (hd : dY + 1 ≤ d) (hst : stk = vs.reverse ++ st) (hsum : (st.map catv).sum ≤ 8) (hw : awid vs ≤ nLY)
    (hret : ∀ r h', Qf r h' → RO ret r) (hlive : mc = 0 ∨ (avs h.1 st ∧ avs h.1 (lv.map Prod.snd))) (hJ : J L xs l y.cls ccY nLY false dY Qf mc ms 0 (alv 0 vs) [] h) (kk : ∀ r h', Qf r h' → avk 0 r → h.1 ≤ h'.1 → h'.1 ≤ h.1 + mc → J L xs l own cc nL ini d Q rc rs pc' lv (pushr r st) h') : J L xs l own cc nL ini d Q (rc + mc) (rs + ms) pc lv stk h := by
  subst hp
  subst hst
  intro p en R s m args below meth c H locs cells slots TC TS n0 n1 D cA ad ad0 base b t ls Z X hl hR
  have O := X.2.2.2.1
  obtain ⟨y1, y2, y3, y4, y5, y6, y7, y8, y9, y10⟩ := X.2.1
  have hM := metOf D cA ad base b t hy (by intro z; cases z) hret hw (by omega) hJ
  refine run_go X hl hR (st := st) (mc := mc) (ms := ms) (Qf := Qf) (va_runS (As := vs.map (cv ad)) ⟨X.1.1, X.1.2.1, X.1.2.2.1, X.1.2.2.2.1, X.1.2.2.2.2.1⟩ hM ⟨cB_of X.1.2.2.2.2.1 hy hlk hd y1 y2, X.1.2.2.2.2.1 _ hys⟩ ⟨PcC_blind, ?_⟩ rfl (by rw [List.length_map]) hl.1 ?_ (lv_room (by rw [catsum]; exact hsum)) dg ⟨by omega, by omega⟩) (fun r h' z => RO_sh (hret r h' z)) hlive kk
  · intro U hU hWm
    refine ⟨rfl, ?_, ?_⟩
    · rw [hU]; exact OL_warm hWm (OL_kept X.2.2.2.2 X.2.2.1)
    · rw [hU]; exact WO_moved hWm.alike O
  · show (vs.reverse ++ st).map (cv ad) = _
    rw [List.map_append, List.map_reverse]
theorem j_callI {y : MethodName} {ccY : ByteArray} {nLY : Nat} {dY mc ms ix ci q : Nat} {vs : List AV} {Qf : AV → Hp → Prop} (dg : decode cc pc = .ok (.invokespecial ix, 3)) (hp : pc + 3 = pc') (hy : YM y ccY nLY none vs.length) (hyn : y.name = "<init>") (hyi : Cond.instanceMethod y ∈ gtb) (hlk : Cond.methodLink own ix y ∈ gtb) (hd : dY + 1 ≤ d) (hst : stk = vs.reverse ++ vr q :: st) (hsum : (st.map catv).sum ≤ 8) (hw : awid (vr q :: vs) ≤ nLY) (hob : cob h ci q = some ())
    (hret : ∀ r h', Qf r h' → RO none r) (hlive : mc = 0 ∨ (avs h.1 st ∧ avs h.1 (lv.map Prod.snd))) (hJ : J L xs l y.cls ccY nLY true dY Qf mc ms 0 (alv 0 (vr q :: vs)) [] h) (kk : ∀ r h', Qf r h' → avk 0 r → h.1 ≤ h'.1 → h'.1 ≤ h.1 + mc → J L xs l own cc nL ini d Q rc rs pc' lv (pushr r st) h') : J L xs l own cc nL ini d Q (rc + mc) (rs + ms) pc lv stk h := by
  subst hp
  subst hst
  intro p en R s m args below meth c H locs cells slots TC TS n0 n1 D cA ad ad0 base b t ls Z X hl hR
  obtain ⟨fs, hq⟩ := cob_inv hob
  have O := X.2.2.2.1
  obtain ⟨y1, y2, y3, y4, y5, y6, y7, y8, y9, y10⟩ := X.2.1
  obtain ⟨h1, h2, h3⟩ := O.2.2.2.2.1.1 q _ hq
  have hq0 : cv ad (vr q) = .ref (ad q) := if_neg (by omega)
  have hM := metOf D cA ad base b t hy (fun _ => hyn) hret hw (by omega) hJ
  have hcv : (vr q :: vs).map (cv ad) = Value.ref (ad q) :: vs.map (cv ad) := by rw [List.map_cons, hq0]
  refine run_go X hl hR (st := st) (mc := mc) (ms := ms) (Qf := Qf) (va_runI (b := ad q) (As := vs.map (cv ad)) ⟨X.1.1, X.1.2.1, X.1.2.2.1, X.1.2.2.2.1, X.1.2.2.2.2.1⟩ hM ⟨cB_of X.1.2.2.2.2.1 hy hlk hd y1 y2, hyn, X.1.2.2.2.2.1 _ hyi⟩ ⟨PcC_blind, ?_⟩ rfl (by rw [List.length_map]) hl.1 ?_ (lv_room (by rw [catsum]; exact hsum)) dg ⟨by omega, by omega⟩) (fun r h' z => RO_sh (hret r h' z)) hlive kk
  · intro U hU hWm
    refine ⟨by rw [← hcv], ?_, ?_⟩
    · rw [hU]; exact OL_warm hWm (OL_kept X.2.2.2.2 X.2.2.1)
    · rw [hU]; exact WO_moved hWm.alike O
  · show (vs.reverse ++ vr q :: st).map (cv ad) = _
    rw [List.map_append, List.map_cons, hq0, List.map_reverse]
theorem cN_of {y : MethodName} {ccY : ByteArray} {nLY : Nat} {ret : Option FieldType} {n dY mc ms ix : Nat} {R : Room} {s : State} {args : Array Value} {host : String} (ht : ∀ w ∈ gtb, w.before args s = true) (hN : NW s) (hy : YM y ccY nLY ret n) (hlk : Cond.methodLinkNest own ix y host ∈ nwl) (hd : dY + 1 ≤ d) (h1 : d ≤ R.frames) (h2 : 64 * d ≤ R.locals) : va_CN R s args own ix y host ccY nLY ret (.code y ccY nLY ret :: gtb) (rmd dY mc ms) mc ms n :=
  va_cnB n ht (code_good y ccY nLY ret hy.1) rfl rfl rfl (hN.1 _ hlk) (ht _ hy.2.1) hy.2.2.2.2 ⟨by show dY + 1 ≤ _; omega, by have := hy.2.2.1; show 8 + (nLY + 11) + 64 * dY ≤ _; omega⟩
theorem j_callN {y : MethodName} {ccY : ByteArray} {nLY : Nat} {dY mc ms ix ci q : Nat} {vs : List AV} {host : String} {Qf : AV → Hp → Prop} (dg : decode cc pc = .ok (.invokespecial ix, 3)) (hp : pc + 3 = pc') (hy : YM y ccY nLY none vs.length) (hyn : y.name = "<init>") (hyi : Cond.instanceMethod y ∈ gtb) (hlk : Cond.methodLinkNest own ix y host ∈ nwl) (hd : dY + 1 ≤ d) (hst : stk = vs.reverse ++ vr q :: st) (hsum : (st.map catv).sum ≤ 8) (hw : awid (vr q :: vs) ≤ nLY) (hob : cob h ci q = some ())
    (hret : ∀ r h', Qf r h' → RO none r) (hlive : mc = 0 ∨ (avs h.1 st ∧ avs h.1 (lv.map Prod.snd))) (hJ : J L xs l y.cls ccY nLY true dY Qf mc ms 0 (alv 0 (vr q :: vs)) [] h) (kk : ∀ r h', Qf r h' → avk 0 r → h.1 ≤ h'.1 → h'.1 ≤ h.1 + mc → J L xs l own cc nL ini d Q rc rs pc' lv (pushr r st) h') : J L xs l own cc nL ini d Q (rc + mc) (rs + ms) pc lv stk h := by
  subst hp
  subst hst
  intro p en R s m args below meth c H locs cells slots TC TS n0 n1 D cA ad ad0 base b t ls Z X hl hR
  obtain ⟨fs, hq⟩ := cob_inv hob
  have O := X.2.2.2.1
  obtain ⟨y1, y2, y3, y4, y5, y6, y7, y8, y9, y10⟩ := X.2.1
  obtain ⟨h1, h2, h3⟩ := O.2.2.2.2.1.1 q _ hq
  have hq0 : cv ad (vr q) = .ref (ad q) := if_neg (by omega)
  have hM := metOf D cA ad base b t hy (fun _ => hyn) hret hw (by omega) hJ
  have hcv : (vr q :: vs).map (cv ad) = Value.ref (ad q) :: vs.map (cv ad) := by rw [List.map_cons, hq0]
  refine run_go X hl hR (st := st) (mc := mc) (ms := ms) (Qf := Qf) (va_runIN (b := ad q) (As := vs.map (cv ad)) ⟨X.1.1, X.1.2.1, X.1.2.2.1, X.1.2.2.2.1, X.1.2.2.2.2.1⟩ hM ⟨cN_of X.1.2.2.2.2.1 X.2.2.1.2.2.2.2.2 hy hlk hd y1 y2, hyn, X.1.2.2.2.2.1 _ hyi⟩ ⟨PcC_blind, ?_⟩ rfl (by rw [List.length_map]) hl.1 ?_ (lv_room (by rw [catsum]; exact hsum)) dg ⟨by omega, by omega⟩) (fun r h' z => RO_sh (hret r h' z)) hlive kk
  · intro U hU hWm
    refine ⟨by rw [← hcv], ?_, ?_⟩
    · rw [hU]; exact OL_warm hWm (OL_kept X.2.2.2.2 X.2.2.1)
    · rw [hU]; exact WO_moved hWm.alike O
  · show (vs.reverse ++ vr q :: st).map (cv ad) = _
    rw [List.map_append, List.map_cons, hq0, List.map_reverse]
theorem j_objInit {ix ci q : Nat} (dg : decode cc pc = .ok (.invokespecial ix, 3)) (hp : pc + 3 = pc') (hw1 : Cond.methodLink own ix objectInit ∈ gtb) (hw2 : Cond.instanceMethod objectInit ∈ gtb) (hw3 : Cond.code objectInit ⟨#[0xb1]⟩ 1 none ∈ gtb) (hd : 1 ≤ d) (hob : cob h ci q = some ()) (hsum : (st.map catv).sum ≤ 8) (k : J L xs l own cc nL ini d Q rc rs pc' lv st h) : J L xs l own cc nL ini d Q rc rs pc lv (vr q :: st) h := by
  subst hp
  intro p en R s m args below meth c H locs cells slots TC TS n0 n1 D cA ad ad0 base b t ls Z X hl hR
  obtain ⟨fs, hq⟩ := cob_inv hob
  have O := X.2.2.2.1
  obtain ⟨y1, y2, y3, y4, y5, y6, y7, y8, y9, y10⟩ := X.2.1
  obtain ⟨h1, h2, h3⟩ := O.2.2.2.2.1.1 q _ hq
  have hq0 : cv ad (vr q) = .ref (ad q) := if_neg (by omega)
  have hrm := lv_room (m := m) (pc := pc) (ls := ls) (rest := (vr q :: st).map (cv ad)) (st := st.map (cv ad)) (by rw [catsum]; exact hsum)
  refine W.objInit X.1.1 X.1.2.1 X.1.2.2.2.1 (X.1.2.2.2.2.1 _ hw1) (X.1.2.2.2.2.1 _ hw2) (X.1.2.2.2.2.1 _ hw3) rfl (by rw [X.1.2.2.1]; exact hl.1) (a := ad q) (rest := st.map (cv ad)) (by show (vr q :: st).map (cv ad) = _; rw [List.map_cons, hq0]) dg (by omega) (by omega) ?_
  exact k _ _ _ _ _ _ _ _ _ _ _ _ _ _ _ _ _ _ _ _ _ _ _ _ _ _ X hl hR
theorem j_cpy {ix q1 q2 : Nat} {i1 i2 n : Int} (dg : decode cc pc = .ok (.invokestatic ix, 3)) (hp : pc + 3 = pc') (hw1 : Cond.methodLink own ix arraycopyName ∈ gtb) (hw2 : Cond.native arraycopyName ∈ gtb) (hw3 : Cond.static arraycopyName ∈ gtb) (hw4 : Cond.initialized "java/lang/System" ∈ gtb) (hd : 1 ≤ d) (hsum : (st.map catv).sum ≤ 8) (ee : cpyI h q1 i1 q2 i2 n = some h') (k : J L xs l own cc nL ini d Q rc rs pc' lv st h') : J L xs l own cc nL ini d Q rc rs pc lv (vi n :: vi i2 :: vr q2 :: vi i1 :: vr q1 :: st) h := by
  subst hp
  intro p en R s m args below meth c H locs cells slots TC TS n0 n1 D cA ad ad0 base b t ls Z X hl hR
  obtain ⟨m1, f, m2, g, hq1, hq2, b1, b2, b3, b4, b5, b6, rfl⟩ := cpyI_inv ee
  have O := X.2.2.2.1
  obtain ⟨y1, y2, y3, y4, y5, y6, y7, y8, y9, y10⟩ := X.2.1
  obtain ⟨h1, h2, h3⟩ := O.2.2.2.2.1.1 q1 _ hq1
  obtain ⟨g1, g2, g3⟩ := O.2.2.2.2.1.1 q2 _ hq2
  have z1 : cv ad (vr q1) = .ref (ad q1) := if_neg (by omega)
  have z2 : cv ad (vr q2) = .ref (ad q2) := if_neg (by omega)
  have l1 := h3.1
  have l2 := g3.1
  have r1 : R32 i1 := ⟨by omega, by omega⟩
  have r2 : R32 i2 := ⟨by omega, by omega⟩
  have r3 : R32 n := ⟨by omega, by omega⟩
  have neg : ∀ {x : Int}, R32 x → 0 ≤ x → ¬ Int32.ofInt x < 0 := fun {x} hr hx => by rw [show (0 : Int32) = Int32.ofInt 0 from rfl, i32_lt hr z32]; omega
  have hK2 : va_K D vwCl [(cA q1, .int), (cA q2, .int)] s := ⟨O.1.1, fun k r hk => by
    match k, hk with
    | 0, hk => cases hk; exact (O.2.1 q1 _ hq1).2
    | 1, hk => cases hk; exact (O.2.1 q2 _ hq2).2
    | k + 2, hk => simp at hk⟩
  show W p l en R s m args below meth c H locs cells slots Z (F0 m pc ls (cv ad (vi n) :: cv ad (vi i2) :: cv ad (vr q2) :: cv ad (vi i1) :: cv ad (vr q1) :: st.map (cv ad)))
  rw [z1, z2]
  have hnf : nativeFrameWords "java/lang/System" "arraycopy" 5 + 11 ≤ 40 := by decide +kernel
  refine va_copyi (D := D) (n0 := m1) (n1 := m2) (f := fun j => Int32.ofInt (f j)) (g := fun j => Int32.ofInt (g j)) (ty := .int) X.1.1 X.1.2.1 (by rw [X.1.2.2.1]; exact hl.1.symm) X.1.2.2.2.1 (X.1.2.2.2.2.1 _ hw1) (X.1.2.2.2.2.1 _ hw2) (X.1.2.2.2.2.1 _ hw3) (X.1.2.2.2.2.1 _ hw4) hK2 O.2.2.1 O.2.2.2.1 X.2.2.2.2 (q1 - 1) (q2 - 1) 0 1 (wsl_at O.2.2.2.2.1 hq1) (wsl_at O.2.2.2.2.1 hq2) rfl rfl rfl (neg r1 b1) (neg r2 b2) (neg r3 b3) (by rw [i32_clamp r1, i32_clamp r3]; omega) (by rw [i32_clamp r2, i32_clamp r3]; omega) (fun _ _ => rfl) (by omega) (by rw [catsum]; omega) dg (fun H1 locs1 hP1 hD1 hS1 => ?_)
  rw [i32_clamp r1, i32_clamp r2, i32_clamp r3] at hP1 hD1
  have hf : va_cpy (fun j => Int32.ofInt (f j)) (fun j => Int32.ofInt (g j)) i1.toNat i2.toNat n.toNat = fun k => Int32.ofInt (if i2.toNat ≤ k ∧ k < i2.toNat + n.toNat then f (i1.toNat + (k - i2.toNat)) else g k) := by
    funext j; simp only [va_cpy]; split <;> rfl
  rw [hf] at hP1 hD1
  refine k _ _ _ _ _ _ _ _ _ _ _ _ _ _ _ _ _ _ _ _ _ _ _ _ _ _ (CT_put X rfl (WO_put (arr 0 m2 (fun k => if i2.toNat ≤ k ∧ k < i2.toNat + n.toNat then f (i1.toNat + (k - i2.toNat)) else g k)) O hq2 ⟨g3.1, fun j => ?_⟩ (have := O.2.1 q2 _ hq2; this) hP1 hD1) hS1) hl hR
  show R32 (if _ then _ else _)
  split
  · exact h3.2 _
  · exact g3.2 j
end
