
def QI (r : Int × Hp) : AV → Hp → Prop := fun a g => a = vi r.1 ∧ g = r.2
def QB (r : Int × Hp) : AV → Hp → Prop := fun a g => a = vi r.1 ∧ g = r.2 ∧ (r.1 = 0 ∨ r.1 = 1)
def QL (r : Int × Hp) : AV → Hp → Prop := fun a g => a = vl r.1 ∧ g = r.2
def QV (r : Hp) : AV → Hp → Prop := fun a g => a = vu ∧ g = r
def cbo (z : Int) : Option Unit := if z = 0 ∨ z = 1 then some () else none
theorem cbo_R {z : Int} (h : cbo z = some ()) : z = 0 ∨ z = 1 := by unfold cbo at h; split at h <;> simp_all
def newO (h : Hp) (c : AC) : Option (Nat × Hp) := some (h.1 + 1, hadd h c)
theorem R32_lcmp (x y : Int) : R32 (lCmp x y) := by unfold lCmp R32; split <;> (try split) <;> omega
section
variable {L : Nat} {xs : Nat → Int32} {l : Launch} {own : String} {cc : ByteArray} {nL : Nat} {ini : Bool} {d : Nat} {Q : AV → Hp → Prop} {rc rs : Nat} {pc pc' : Nat} {lv lv' : List (Nat × AV)} {st stk : List AV} {h h' : Hp}

theorem j_room {a b : Nat} (k : J L xs l own cc nL ini d Q rc rs pc lv st h) : J L xs l own cc nL ini d Q (rc + a) (rs + b) pc lv st h := by
  intro p en R s m args below meth c H locs cells slots TC TS n0 n1 D cA ad ad0 base bb t ls Z X hl hR
  obtain ⟨x1, ⟨y1, y2, y3, y4, y5, y6, y7, y8, y9, y10⟩, x3, x4, x5⟩ := X
  exact k _ _ _ _ _ _ _ _ _ _ _ _ _ _ _ _ _ _ _ _ _ _ _ _ _ _ ⟨x1, ⟨y1, y2, y3, y4, by omega, by omega, y7, by omega, y9, y10⟩, x3, x4, x5⟩ hl hR
theorem j_rc {rc2 rs2 : Nat} (h1 : rc2 ≤ rc) (h2 : rs2 ≤ rs) (k : J L xs l own cc nL ini d Q rc2 rs2 pc lv st h) : J L xs l own cc nL ini d Q rc rs pc lv st h := by
  obtain ⟨a, rfl⟩ := Nat.le.dest h1
  obtain ⟨b, rfl⟩ := Nat.le.dest h2
  exact j_room k
theorem j_d {d2 : Nat} (h1 : d2 ≤ d) (k : J L xs l own cc nL ini d2 Q rc rs pc lv st h) : J L xs l own cc nL ini d Q rc rs pc lv st h := by
  intro p en R s m args below meth c H locs cells slots TC TS n0 n1 D cA ad ad0 base bb t ls Z X hl hR
  obtain ⟨x1, ⟨y1, y2, y3, y4, y5, y6, y7, y8, y9, y10⟩, x3, x4, x5⟩ := X
  exact k _ _ _ _ _ _ _ _ _ _ _ _ _ _ _ _ _ _ _ _ _ _ _ _ _ _ ⟨x1, ⟨by omega, by omega, y3, y4, y5, y6, y7, y8, y9, y10⟩, x3, x4, x5⟩ hl hR
theorem j_cVi {y : MethodName} {ccY : ByteArray} {nLY : Nat} {dY ix ci q : Nat} {vs : List AV} {res : Int × Hp} (dg : decode cc pc = .ok (.invokevirtual ix, 3)) (hp : pc + 3 = pc') (hy : YM y ccY nLY (some .int) vs.length) (hyv : YV y ci) (hlk : Cond.methodLink own ix y ∈ gtb) (hd : dY + 1 ≤ d) (hst : stk = vs.reverse ++ vr q :: st) (hsum : (st.map catv).sum ≤ 8) (hw : awid (vr q :: vs) ≤ nLY) (hob : cob h ci q = some ()) (hJ : J L xs l y.cls ccY nLY false dY (QI res) 0 0 0 (alv 0 (vr q :: vs)) [] h) (kk : R32 res.1 → res.2.1 = h.1 → J L xs l own cc nL ini d Q rc rs pc' lv (vi res.1 :: st) (res.2)) : J L xs l own cc nL ini d Q rc rs pc lv stk h := by
  refine j_callV (mc := 0) (ms := 0) dg hp hy hyv hlk hd hst hsum hw hob (fun r h' z => Or.inl ⟨rfl, _, z.1⟩) (Or.inl rfl) hJ (fun r h' hq hav h1 h2 => ?_)
  obtain ⟨rfl, rfl⟩ := hq
  exact kk hav (by omega)
theorem j_aVi {y : MethodName} {ccY : ByteArray} {nLY : Nat} {dY ix ci q : Nat} {vs : List AV} {mc ms : Nat} {res : Int × Hp} (dg : decode cc pc = .ok (.invokevirtual ix, 3)) (hp : pc + 3 = pc') (hy : YM y ccY nLY (some .int) vs.length) (hyv : YV y ci) (hlk : Cond.methodLink own ix y ∈ gtb) (hd : dY + 1 ≤ d) (hst : stk = vs.reverse ++ vr q :: st) (hsum : (st.map catv).sum ≤ 8) (hw : awid (vr q :: vs) ≤ nLY) (hob : cob h ci q = some ()) (hl1 : avs h.1 st) (hl2 : avs h.1 (lv.map Prod.snd)) (hJ : J L xs l y.cls ccY nLY false dY (QI res) mc ms 0 (alv 0 (vr q :: vs)) [] h) (kk : R32 res.1 → J L xs l own cc nL ini d Q rc rs pc' lv (vi res.1 :: st) (res.2)) : J L xs l own cc nL ini d Q (rc + mc) (rs + ms) pc lv stk h := by
  refine j_callV (mc := mc) (ms := ms) dg hp hy hyv hlk hd hst hsum hw hob (fun r h' z => Or.inl ⟨rfl, _, z.1⟩) (Or.inr ⟨hl1, hl2⟩) hJ (fun r h' hq hav h1 h2 => ?_)
  obtain ⟨rfl, rfl⟩ := hq
  exact kk hav 
theorem j_cSi {y : MethodName} {ccY : ByteArray} {nLY : Nat} {dY ix : Nat} {vs : List AV} {res : Int × Hp} (dg : decode cc pc = .ok (.invokestatic ix, 3)) (hp : pc + 3 = pc') (hy : YM y ccY nLY (some .int) vs.length) (hys : Cond.static y ∈ gtb) (hlk : Cond.methodLink own ix y ∈ gtb) (hd : dY + 1 ≤ d) (hst : stk = vs.reverse ++ st) (hsum : (st.map catv).sum ≤ 8) (hw : awid vs ≤ nLY) (hJ : J L xs l y.cls ccY nLY false dY (QI res) 0 0 0 (alv 0 vs) [] h) (kk : R32 res.1 → res.2.1 = h.1 → J L xs l own cc nL ini d Q rc rs pc' lv (vi res.1 :: st) (res.2)) : J L xs l own cc nL ini d Q rc rs pc lv stk h := by
  refine j_callS (mc := 0) (ms := 0) dg hp hy hys hlk hd hst hsum hw (fun r h' z => Or.inl ⟨rfl, _, z.1⟩) (Or.inl rfl) hJ (fun r h' hq hav h1 h2 => ?_)
  obtain ⟨rfl, rfl⟩ := hq
  exact kk hav (by omega)
theorem j_aSi {y : MethodName} {ccY : ByteArray} {nLY : Nat} {dY ix : Nat} {vs : List AV} {mc ms : Nat} {res : Int × Hp} (dg : decode cc pc = .ok (.invokestatic ix, 3)) (hp : pc + 3 = pc') (hy : YM y ccY nLY (some .int) vs.length) (hys : Cond.static y ∈ gtb) (hlk : Cond.methodLink own ix y ∈ gtb) (hd : dY + 1 ≤ d) (hst : stk = vs.reverse ++ st) (hsum : (st.map catv).sum ≤ 8) (hw : awid vs ≤ nLY) (hl1 : avs h.1 st) (hl2 : avs h.1 (lv.map Prod.snd)) (hJ : J L xs l y.cls ccY nLY false dY (QI res) mc ms 0 (alv 0 vs) [] h) (kk : R32 res.1 → J L xs l own cc nL ini d Q rc rs pc' lv (vi res.1 :: st) (res.2)) : J L xs l own cc nL ini d Q (rc + mc) (rs + ms) pc lv stk h := by
  refine j_callS (mc := mc) (ms := ms) dg hp hy hys hlk hd hst hsum hw (fun r h' z => Or.inl ⟨rfl, _, z.1⟩) (Or.inr ⟨hl1, hl2⟩) hJ (fun r h' hq hav h1 h2 => ?_)
  obtain ⟨rfl, rfl⟩ := hq
  exact kk hav 
theorem j_cVb {y : MethodName} {ccY : ByteArray} {nLY : Nat} {dY ix ci q : Nat} {vs : List AV} {res : Int × Hp} (dg : decode cc pc = .ok (.invokevirtual ix, 3)) (hp : pc + 3 = pc') (hy : YM y ccY nLY (some .boolean) vs.length) (hyv : YV y ci) (hlk : Cond.methodLink own ix y ∈ gtb) (hd : dY + 1 ≤ d) (hst : stk = vs.reverse ++ vr q :: st) (hsum : (st.map catv).sum ≤ 8) (hw : awid (vr q :: vs) ≤ nLY) (hob : cob h ci q = some ()) (hJ : J L xs l y.cls ccY nLY false dY (QB res) 0 0 0 (alv 0 (vr q :: vs)) [] h) (kk : R32 res.1 → (res.1 = 0 ∨ res.1 = 1) → res.2.1 = h.1 → J L xs l own cc nL ini d Q rc rs pc' lv (vi res.1 :: st) (res.2)) : J L xs l own cc nL ini d Q rc rs pc lv stk h := by
  refine j_callV (mc := 0) (ms := 0) dg hp hy hyv hlk hd hst hsum hw hob (fun r h' z => Or.inr (Or.inl ⟨rfl, by rcases z.2.2 with q | q <;> (rw [z.1, q]; simp)⟩)) (Or.inl rfl) hJ (fun r h' hq hav h1 h2 => ?_)
  obtain ⟨rfl, rfl, hb⟩ := hq
  exact kk hav hb (by omega)
theorem j_aVb {y : MethodName} {ccY : ByteArray} {nLY : Nat} {dY ix ci q : Nat} {vs : List AV} {mc ms : Nat} {res : Int × Hp} (dg : decode cc pc = .ok (.invokevirtual ix, 3)) (hp : pc + 3 = pc') (hy : YM y ccY nLY (some .boolean) vs.length) (hyv : YV y ci) (hlk : Cond.methodLink own ix y ∈ gtb) (hd : dY + 1 ≤ d) (hst : stk = vs.reverse ++ vr q :: st) (hsum : (st.map catv).sum ≤ 8) (hw : awid (vr q :: vs) ≤ nLY) (hob : cob h ci q = some ()) (hl1 : avs h.1 st) (hl2 : avs h.1 (lv.map Prod.snd)) (hJ : J L xs l y.cls ccY nLY false dY (QB res) mc ms 0 (alv 0 (vr q :: vs)) [] h) (kk : R32 res.1 → (res.1 = 0 ∨ res.1 = 1) → J L xs l own cc nL ini d Q rc rs pc' lv (vi res.1 :: st) (res.2)) : J L xs l own cc nL ini d Q (rc + mc) (rs + ms) pc lv stk h := by
  refine j_callV (mc := mc) (ms := ms) dg hp hy hyv hlk hd hst hsum hw hob (fun r h' z => Or.inr (Or.inl ⟨rfl, by rcases z.2.2 with q | q <;> (rw [z.1, q]; simp)⟩)) (Or.inr ⟨hl1, hl2⟩) hJ (fun r h' hq hav h1 h2 => ?_)
  obtain ⟨rfl, rfl, hb⟩ := hq
  exact kk hav hb 
theorem j_cSb {y : MethodName} {ccY : ByteArray} {nLY : Nat} {dY ix : Nat} {vs : List AV} {res : Int × Hp} (dg : decode cc pc = .ok (.invokestatic ix, 3)) (hp : pc + 3 = pc') (hy : YM y ccY nLY (some .boolean) vs.length) (hys : Cond.static y ∈ gtb) (hlk : Cond.methodLink own ix y ∈ gtb) (hd : dY + 1 ≤ d) (hst : stk = vs.reverse ++ st) (hsum : (st.map catv).sum ≤ 8) (hw : awid vs ≤ nLY) (hJ : J L xs l y.cls ccY nLY false dY (QB res) 0 0 0 (alv 0 vs) [] h) (kk : R32 res.1 → (res.1 = 0 ∨ res.1 = 1) → res.2.1 = h.1 → J L xs l own cc nL ini d Q rc rs pc' lv (vi res.1 :: st) (res.2)) : J L xs l own cc nL ini d Q rc rs pc lv stk h := by
  refine j_callS (mc := 0) (ms := 0) dg hp hy hys hlk hd hst hsum hw (fun r h' z => Or.inr (Or.inl ⟨rfl, by rcases z.2.2 with q | q <;> (rw [z.1, q]; simp)⟩)) (Or.inl rfl) hJ (fun r h' hq hav h1 h2 => ?_)
  obtain ⟨rfl, rfl, hb⟩ := hq
  exact kk hav hb (by omega)
theorem j_aSb {y : MethodName} {ccY : ByteArray} {nLY : Nat} {dY ix : Nat} {vs : List AV} {mc ms : Nat} {res : Int × Hp} (dg : decode cc pc = .ok (.invokestatic ix, 3)) (hp : pc + 3 = pc') (hy : YM y ccY nLY (some .boolean) vs.length) (hys : Cond.static y ∈ gtb) (hlk : Cond.methodLink own ix y ∈ gtb) (hd : dY + 1 ≤ d) (hst : stk = vs.reverse ++ st) (hsum : (st.map catv).sum ≤ 8) (hw : awid vs ≤ nLY) (hl1 : avs h.1 st) (hl2 : avs h.1 (lv.map Prod.snd)) (hJ : J L xs l y.cls ccY nLY false dY (QB res) mc ms 0 (alv 0 vs) [] h) (kk : R32 res.1 → (res.1 = 0 ∨ res.1 = 1) → J L xs l own cc nL ini d Q rc rs pc' lv (vi res.1 :: st) (res.2)) : J L xs l own cc nL ini d Q (rc + mc) (rs + ms) pc lv stk h := by
  refine j_callS (mc := mc) (ms := ms) dg hp hy hys hlk hd hst hsum hw (fun r h' z => Or.inr (Or.inl ⟨rfl, by rcases z.2.2 with q | q <;> (rw [z.1, q]; simp)⟩)) (Or.inr ⟨hl1, hl2⟩) hJ (fun r h' hq hav h1 h2 => ?_)
  obtain ⟨rfl, rfl, hb⟩ := hq
  exact kk hav hb 
theorem j_cVl {y : MethodName} {ccY : ByteArray} {nLY : Nat} {dY ix ci q : Nat} {vs : List AV} {res : Int × Hp} (dg : decode cc pc = .ok (.invokevirtual ix, 3)) (hp : pc + 3 = pc') (hy : YM y ccY nLY (some .long) vs.length) (hyv : YV y ci) (hlk : Cond.methodLink own ix y ∈ gtb) (hd : dY + 1 ≤ d) (hst : stk = vs.reverse ++ vr q :: st) (hsum : (st.map catv).sum ≤ 8) (hw : awid (vr q :: vs) ≤ nLY) (hob : cob h ci q = some ()) (hJ : J L xs l y.cls ccY nLY false dY (QL res) 0 0 0 (alv 0 (vr q :: vs)) [] h) (kk : R64 res.1 → res.2.1 = h.1 → J L xs l own cc nL ini d Q rc rs pc' lv (vl res.1 :: st) (res.2)) : J L xs l own cc nL ini d Q rc rs pc lv stk h := by
  refine j_callV (mc := 0) (ms := 0) dg hp hy hyv hlk hd hst hsum hw hob (fun r h' z => Or.inr (Or.inr (Or.inl ⟨rfl, _, z.1⟩))) (Or.inl rfl) hJ (fun r h' hq hav h1 h2 => ?_)
  obtain ⟨rfl, rfl⟩ := hq
  exact kk hav (by omega)
theorem j_aVl {y : MethodName} {ccY : ByteArray} {nLY : Nat} {dY ix ci q : Nat} {vs : List AV} {mc ms : Nat} {res : Int × Hp} (dg : decode cc pc = .ok (.invokevirtual ix, 3)) (hp : pc + 3 = pc') (hy : YM y ccY nLY (some .long) vs.length) (hyv : YV y ci) (hlk : Cond.methodLink own ix y ∈ gtb) (hd : dY + 1 ≤ d) (hst : stk = vs.reverse ++ vr q :: st) (hsum : (st.map catv).sum ≤ 8) (hw : awid (vr q :: vs) ≤ nLY) (hob : cob h ci q = some ()) (hl1 : avs h.1 st) (hl2 : avs h.1 (lv.map Prod.snd)) (hJ : J L xs l y.cls ccY nLY false dY (QL res) mc ms 0 (alv 0 (vr q :: vs)) [] h) (kk : R64 res.1 → J L xs l own cc nL ini d Q rc rs pc' lv (vl res.1 :: st) (res.2)) : J L xs l own cc nL ini d Q (rc + mc) (rs + ms) pc lv stk h := by
  refine j_callV (mc := mc) (ms := ms) dg hp hy hyv hlk hd hst hsum hw hob (fun r h' z => Or.inr (Or.inr (Or.inl ⟨rfl, _, z.1⟩))) (Or.inr ⟨hl1, hl2⟩) hJ (fun r h' hq hav h1 h2 => ?_)
  obtain ⟨rfl, rfl⟩ := hq
  exact kk hav 
theorem j_cSl {y : MethodName} {ccY : ByteArray} {nLY : Nat} {dY ix : Nat} {vs : List AV} {res : Int × Hp} (dg : decode cc pc = .ok (.invokestatic ix, 3)) (hp : pc + 3 = pc') (hy : YM y ccY nLY (some .long) vs.length) (hys : Cond.static y ∈ gtb) (hlk : Cond.methodLink own ix y ∈ gtb) (hd : dY + 1 ≤ d) (hst : stk = vs.reverse ++ st) (hsum : (st.map catv).sum ≤ 8) (hw : awid vs ≤ nLY) (hJ : J L xs l y.cls ccY nLY false dY (QL res) 0 0 0 (alv 0 vs) [] h) (kk : R64 res.1 → res.2.1 = h.1 → J L xs l own cc nL ini d Q rc rs pc' lv (vl res.1 :: st) (res.2)) : J L xs l own cc nL ini d Q rc rs pc lv stk h := by
  refine j_callS (mc := 0) (ms := 0) dg hp hy hys hlk hd hst hsum hw (fun r h' z => Or.inr (Or.inr (Or.inl ⟨rfl, _, z.1⟩))) (Or.inl rfl) hJ (fun r h' hq hav h1 h2 => ?_)
  obtain ⟨rfl, rfl⟩ := hq
  exact kk hav (by omega)
theorem j_aSl {y : MethodName} {ccY : ByteArray} {nLY : Nat} {dY ix : Nat} {vs : List AV} {mc ms : Nat} {res : Int × Hp} (dg : decode cc pc = .ok (.invokestatic ix, 3)) (hp : pc + 3 = pc') (hy : YM y ccY nLY (some .long) vs.length) (hys : Cond.static y ∈ gtb) (hlk : Cond.methodLink own ix y ∈ gtb) (hd : dY + 1 ≤ d) (hst : stk = vs.reverse ++ st) (hsum : (st.map catv).sum ≤ 8) (hw : awid vs ≤ nLY) (hl1 : avs h.1 st) (hl2 : avs h.1 (lv.map Prod.snd)) (hJ : J L xs l y.cls ccY nLY false dY (QL res) mc ms 0 (alv 0 vs) [] h) (kk : R64 res.1 → J L xs l own cc nL ini d Q rc rs pc' lv (vl res.1 :: st) (res.2)) : J L xs l own cc nL ini d Q (rc + mc) (rs + ms) pc lv stk h := by
  refine j_callS (mc := mc) (ms := ms) dg hp hy hys hlk hd hst hsum hw (fun r h' z => Or.inr (Or.inr (Or.inl ⟨rfl, _, z.1⟩))) (Or.inr ⟨hl1, hl2⟩) hJ (fun r h' hq hav h1 h2 => ?_)
  obtain ⟨rfl, rfl⟩ := hq
  exact kk hav 
theorem j_cVv {y : MethodName} {ccY : ByteArray} {nLY : Nat} {dY ix ci q : Nat} {vs : List AV} {res : Hp} (dg : decode cc pc = .ok (.invokevirtual ix, 3)) (hp : pc + 3 = pc') (hy : YM y ccY nLY (none) vs.length) (hyv : YV y ci) (hlk : Cond.methodLink own ix y ∈ gtb) (hd : dY + 1 ≤ d) (hst : stk = vs.reverse ++ vr q :: st) (hsum : (st.map catv).sum ≤ 8) (hw : awid (vr q :: vs) ≤ nLY) (hob : cob h ci q = some ()) (hJ : J L xs l y.cls ccY nLY false dY (QV res) 0 0 0 (alv 0 (vr q :: vs)) [] h) (kk : res.1 = h.1 → J L xs l own cc nL ini d Q rc rs pc' lv (st) (res)) : J L xs l own cc nL ini d Q rc rs pc lv stk h := by
  refine j_callV (mc := 0) (ms := 0) dg hp hy hyv hlk hd hst hsum hw hob (fun r h' z => Or.inr (Or.inr (Or.inr ⟨rfl, z.1⟩))) (Or.inl rfl) hJ (fun r h' hq hav h1 h2 => ?_)
  obtain ⟨rfl, rfl⟩ := hq
  exact kk (by omega)
theorem j_aVv {y : MethodName} {ccY : ByteArray} {nLY : Nat} {dY ix ci q : Nat} {vs : List AV} {mc ms : Nat} {res : Hp} (dg : decode cc pc = .ok (.invokevirtual ix, 3)) (hp : pc + 3 = pc') (hy : YM y ccY nLY (none) vs.length) (hyv : YV y ci) (hlk : Cond.methodLink own ix y ∈ gtb) (hd : dY + 1 ≤ d) (hst : stk = vs.reverse ++ vr q :: st) (hsum : (st.map catv).sum ≤ 8) (hw : awid (vr q :: vs) ≤ nLY) (hob : cob h ci q = some ()) (hl1 : avs h.1 st) (hl2 : avs h.1 (lv.map Prod.snd)) (hJ : J L xs l y.cls ccY nLY false dY (QV res) mc ms 0 (alv 0 (vr q :: vs)) [] h) (kk : J L xs l own cc nL ini d Q rc rs pc' lv (st) (res)) : J L xs l own cc nL ini d Q (rc + mc) (rs + ms) pc lv stk h := by
  refine j_callV (mc := mc) (ms := ms) dg hp hy hyv hlk hd hst hsum hw hob (fun r h' z => Or.inr (Or.inr (Or.inr ⟨rfl, z.1⟩))) (Or.inr ⟨hl1, hl2⟩) hJ (fun r h' hq hav h1 h2 => ?_)
  obtain ⟨rfl, rfl⟩ := hq
  exact kk
theorem j_cSv {y : MethodName} {ccY : ByteArray} {nLY : Nat} {dY ix : Nat} {vs : List AV} {res : Hp} (dg : decode cc pc = .ok (.invokestatic ix, 3)) (hp : pc + 3 = pc') (hy : YM y ccY nLY (none) vs.length) (hys : Cond.static y ∈ gtb) (hlk : Cond.methodLink own ix y ∈ gtb) (hd : dY + 1 ≤ d) (hst : stk = vs.reverse ++ st) (hsum : (st.map catv).sum ≤ 8) (hw : awid vs ≤ nLY) (hJ : J L xs l y.cls ccY nLY false dY (QV res) 0 0 0 (alv 0 vs) [] h) (kk : res.1 = h.1 → J L xs l own cc nL ini d Q rc rs pc' lv (st) (res)) : J L xs l own cc nL ini d Q rc rs pc lv stk h := by
  refine j_callS (mc := 0) (ms := 0) dg hp hy hys hlk hd hst hsum hw (fun r h' z => Or.inr (Or.inr (Or.inr ⟨rfl, z.1⟩))) (Or.inl rfl) hJ (fun r h' hq hav h1 h2 => ?_)
  obtain ⟨rfl, rfl⟩ := hq
  exact kk (by omega)
theorem j_aSv {y : MethodName} {ccY : ByteArray} {nLY : Nat} {dY ix : Nat} {vs : List AV} {mc ms : Nat} {res : Hp} (dg : decode cc pc = .ok (.invokestatic ix, 3)) (hp : pc + 3 = pc') (hy : YM y ccY nLY (none) vs.length) (hys : Cond.static y ∈ gtb) (hlk : Cond.methodLink own ix y ∈ gtb) (hd : dY + 1 ≤ d) (hst : stk = vs.reverse ++ st) (hsum : (st.map catv).sum ≤ 8) (hw : awid vs ≤ nLY) (hl1 : avs h.1 st) (hl2 : avs h.1 (lv.map Prod.snd)) (hJ : J L xs l y.cls ccY nLY false dY (QV res) mc ms 0 (alv 0 vs) [] h) (kk : J L xs l own cc nL ini d Q rc rs pc' lv (st) (res)) : J L xs l own cc nL ini d Q (rc + mc) (rs + ms) pc lv stk h := by
  refine j_callS (mc := mc) (ms := ms) dg hp hy hys hlk hd hst hsum hw (fun r h' z => Or.inr (Or.inr (Or.inr ⟨rfl, z.1⟩))) (Or.inr ⟨hl1, hl2⟩) hJ (fun r h' hq hav h1 h2 => ?_)
  obtain ⟨rfl, rfl⟩ := hq
  exact kk
theorem j_aI {y : MethodName} {ccY : ByteArray} {nLY : Nat} {dY ix ci q : Nat} {vs : List AV} {mc ms : Nat} {res : Hp} (dg : decode cc pc = .ok (.invokespecial ix, 3)) (hp : pc + 3 = pc') (hy : YM y ccY nLY none vs.length) (hyn : y.name = "<init>") (hyi : Cond.instanceMethod y ∈ gtb) (hlk : Cond.methodLink own ix y ∈ gtb) (hd : dY + 1 ≤ d) (hst : stk = vs.reverse ++ vr q :: st) (hsum : (st.map catv).sum ≤ 8) (hw : awid (vr q :: vs) ≤ nLY) (hob : cob h ci q = some ()) (hl1 : avs h.1 st) (hl2 : avs h.1 (lv.map Prod.snd)) (hJ : J L xs l y.cls ccY nLY true dY (QV res) mc ms 0 (alv 0 (vr q :: vs)) [] h) (kk : J L xs l own cc nL ini d Q rc rs pc' lv st res) : J L xs l own cc nL ini d Q (rc + mc) (rs + ms) pc lv stk h := by
  refine j_callI (mc := mc) (ms := ms) dg hp hy hyn hyi hlk hd hst hsum hw hob (fun r h' z => Or.inr (Or.inr (Or.inr ⟨rfl, z.1⟩))) (Or.inr ⟨hl1, hl2⟩) hJ (fun r h' hq hav h1 h2 => ?_)
  obtain ⟨rfl, rfl⟩ := hq
  exact kk
theorem j_aN {y : MethodName} {ccY : ByteArray} {nLY : Nat} {dY ix ci q : Nat} {vs : List AV} {host : String} {mc ms : Nat} {res : Hp} (dg : decode cc pc = .ok (.invokespecial ix, 3)) (hp : pc + 3 = pc') (hy : YM y ccY nLY none vs.length) (hyn : y.name = "<init>") (hyi : Cond.instanceMethod y ∈ gtb) (hlk : Cond.methodLinkNest own ix y host ∈ nwl) (hd : dY + 1 ≤ d) (hst : stk = vs.reverse ++ vr q :: st) (hsum : (st.map catv).sum ≤ 8) (hw : awid (vr q :: vs) ≤ nLY) (hob : cob h ci q = some ()) (hl1 : avs h.1 st) (hl2 : avs h.1 (lv.map Prod.snd)) (hJ : J L xs l y.cls ccY nLY true dY (QV res) mc ms 0 (alv 0 (vr q :: vs)) [] h) (kk : J L xs l own cc nL ini d Q rc rs pc' lv st res) : J L xs l own cc nL ini d Q (rc + mc) (rs + ms) pc lv stk h := by
  refine j_callN (mc := mc) (ms := ms) dg hp hy hyn hyi hlk hd hst hsum hw hob (fun r h' z => Or.inr (Or.inr (Or.inr ⟨rfl, z.1⟩))) (Or.inr ⟨hl1, hl2⟩) hJ (fun r h' hq hav h1 h2 => ?_)
  obtain ⟨rfl, rfl⟩ := hq
  exact kk
theorem j_newp {ix ci N : Nat} {fs : List AV} {pp : Nat × Hp} (dg : decode cc pc = .ok (.new ix, 3)) (hp : pc + 3 = pc') (lk : NL own ix ci N fs) (hs : avs h.1 st) (hv : avs h.1 (lv.map Prod.snd)) (ee : newO h (obj ci fs) = some pp) (kk : J L xs l own cc nL ini d Q rc rs pc' lv (vr pp.1 :: st) pp.2) : J L xs l own cc nL ini d Q (rc + 1) (rs + N) pc lv st h := by
  cases ee; exact j_new dg hp lk hs hv kk
theorem j_newRp {z : Int} {N ix ci : Nat} {pp : Nat × Hp} (hN : z = (N : Int)) (hN2 : N < 100000) (dg : decode cc pc = .ok (.anewarray ix, 3)) (hp : pc + 3 = pc') (hw : Cond.classLink own ix (clN ci) ∈ gtb) (hci : clN ci = RX6 ∨ clN ci = RX7) (hs : avs h.1 st) (hv : avs h.1 (lv.map Prod.snd)) (ee : newO h (rar ci N (fun _ => 0)) = some pp) (kk : J L xs l own cc nL ini d Q rc rs pc' lv (vr pp.1 :: st) pp.2) : J L xs l own cc nL ini d Q (rc + 1) (rs + N) pc lv (vi z :: st) h := by
  cases ee; exact j_newR hN hN2 dg hp hw hci hs hv kk
theorem j_newIp {z : Int} {N : Nat} {pp : Nat × Hp} (hN : z = (N : Int)) (hN2 : N < 100000) (dg : decode cc pc = .ok (.newarray .int, 2)) (hp : pc + 2 = pc') (hw : Cond.arrayClass .int ∈ gtb) (hs : avs h.1 st) (hv : avs h.1 (lv.map Prod.snd)) (ee : newO h (arr 0 N (fun _ => 0)) = some pp) (kk : J L xs l own cc nL ini d Q rc rs pc' lv (vr pp.1 :: st) pp.2) : J L xs l own cc nL ini d Q (rc + 1) (rs + N) pc lv (vi z :: st) h := by
  cases ee; exact j_newI hN hN2 dg hp hw hs hv kk
theorem j_newLp {z : Int} {N : Nat} {pp : Nat × Hp} (hN : z = (N : Int)) (hN2 : N < 100000) (dg : decode cc pc = .ok (.newarray .long, 2)) (hp : pc + 2 = pc') (hw : Cond.arrayClass .long ∈ gtb) (hs : avs h.1 st) (hv : avs h.1 (lv.map Prod.snd)) (ee : newO h (arr 1 N (fun _ => 0)) = some pp) (kk : J L xs l own cc nL ini d Q rc rs pc' lv (vr pp.1 :: st) pp.2) : J L xs l own cc nL ini d Q (rc + 1) (rs + N) pc lv (vi z :: st) h := by
  cases ee; exact j_newL hN hN2 dg hp hw hs hv kk
theorem j_newZp {z : Int} {N : Nat} {pp : Nat × Hp} (hN : z = (N : Int)) (hN2 : N < 100000) (dg : decode cc pc = .ok (.newarray .boolean, 2)) (hp : pc + 2 = pc') (hw : Cond.arrayClass .boolean ∈ gtb) (hs : avs h.1 st) (hv : avs h.1 (lv.map Prod.snd)) (ee : newO h (arr 2 N (fun _ => 0)) = some pp) (kk : J L xs l own cc nL ini d Q rc rs pc' lv (vr pp.1 :: st) pp.2) : J L xs l own cc nL ini d Q (rc + 1) (rs + N) pc lv (vi z :: st) h := by
  cases ee; exact j_newZ hN hN2 dg hp hw hs hv kk
theorem gm {w : Cond} (i : Nat) (h : lw_tbl[i]? = some w) (hg : goodWord w = true) : w ∈ gtb := List.mem_filter.mpr ⟨List.mem_of_getElem? h, hg⟩
theorem gn {w : Cond} (i : Nat) (h : lw_tbl[i]? = some w) (hg : isNest w = true) : w ∈ nwl := List.mem_filter.mpr ⟨List.mem_of_getElem? h, hg⟩
end
