/-! constructors: heaps with new cells behind -/
def ext (h : Hp) (l : List AC) : Hp := (h.1 + l.length, fun k => if h.1 < k ∧ k ≤ h.1 + l.length then l[k - h.1 - 1]? else h.2 k)
theorem ext_1 (h : Hp) (l : List AC) : (ext h l).1 = h.1 + l.length := rfl
theorem ext_0 (h : Hp) : ext h [] = h := by
  obtain ⟨n, f⟩ := h
  unfold ext
  congr 1
  funext k
  rw [if_neg (by simp only [List.length_nil]; omega)]
theorem ext_add (h : Hp) (l : List AC) (c : AC) : hadd (ext h l) c = ext h (l ++ [c]) := by
  unfold hadd ext
  simp only [List.length_append, List.length_cons, List.length_nil]
  congr 1
  funext k
  by_cases z : k = h.1 + l.length + 1
  · rw [if_pos z, if_pos (by omega), show k - h.1 - 1 = l.length by omega]
    simp
  · rw [if_neg z]
    by_cases y : h.1 < k ∧ k ≤ h.1 + l.length
    · rw [if_pos y, if_pos (by omega), List.getElem?_append_left (by omega)]
    · rw [if_neg y, if_neg (by omega)]
theorem ext_put {h : Hp} {l : List AC} {q i : Nat} {c : AC} (hq : q = h.1 + 1 + i) (hi : i < l.length) : hput (ext h l) q c = ext h (l.set i c) := by
  unfold hput ext
  simp only [List.length_set]
  congr 1
  funext k
  by_cases z : k = q
  · rw [if_pos z, if_pos (by omega), show k - h.1 - 1 = i by omega]
    simp [hi]
  · rw [if_neg z]
    by_cases y : h.1 < k ∧ k ≤ h.1 + l.length
    · rw [if_pos y, if_pos y, List.getElem?_set_ne (by omega)]
    · rw [if_neg y, if_neg y]
theorem ext_at {h : Hp} {l : List AC} {q : Nat} (i : Nat) {c : AC} (hq : q = h.1 + 1 + i) (e : l[i]? = some c) : (ext h l).2 q = some c := by
  have hi : i < l.length := by
    rcases Nat.lt_or_ge i l.length with w | w
    · exact w
    · rw [List.getElem?_eq_none w] at e; exact absurd e (by simp)
  unfold ext
  show (if h.1 < q ∧ q ≤ h.1 + l.length then l[q - h.1 - 1]? else h.2 q) = some c
  rw [if_pos (by omega), show q - h.1 - 1 = i by omega, e]
theorem ext_lo {h : Hp} {l : List AC} {q : Nat} (hq : q ≤ h.1) : (ext h l).2 q = h.2 q := if_neg (by omega)
theorem ext_ext (h : Hp) (l m : List AC) : ext (ext h l) m = ext h (l ++ m) := by
  unfold ext
  simp only [List.length_append]
  congr 1
  · omega
  · funext k
    by_cases z : h.1 + l.length < k ∧ k ≤ h.1 + l.length + m.length
    · rw [if_pos z, if_pos (by omega), List.getElem?_append_right (by omega)]
      congr 1; omega
    · rw [if_neg z]
      by_cases y : h.1 < k ∧ k ≤ h.1 + l.length
      · rw [if_pos y, if_pos (by omega), List.getElem?_append_left (by omega)]
      · rw [if_neg y, if_neg (by omega)]
section
variable {β : Type} {b : Hp} {ci : Nat} {fs fs' : List AV} {R : List AC}
theorem hdS {a : Nat} (ha : a = b.1 + 1) : (ext b (obj ci fs :: R)).2 a = some (obj ci fs) := ext_at 0 (by omega) rfl
theorem setS {a : Nat} (ha : a = b.1 + 1) {j : Nat} {v : AV} (hj : j < fs.length) (e : fs.set j v = fs') (K : Hp → Option β) : ((putV (ext b (obj ci fs :: R)) ci a j v).bind K) = K (ext b (obj ci fs' :: R)) := by
  rw [pV j (hdS ha) hj e, ob, ext_put (i := 0) (by omega) (by simp)]; rfl
theorem rowS {a : Nat} (ha : a = b.1 + 1) {j : Nat} {q : Nat} (hq : b.1 + 1 + R.length + 1 = q) {c : AC} (hj : j < fs.length) (e : fs.set j (vr q) = fs') (K : Hp → Option β) : ((crf (ext b (obj ci fs :: R)) a).bind fun _ => (newO (ext b (obj ci fs :: R)) c).bind fun p => (crf p.2 p.1).bind fun _ => (putV p.2 ci a j (vr p.1)).bind K) = K (ext b (obj ci fs' :: (R ++ [c]))) := by
  have e1 : (ext b (obj ci fs :: R)).1 = b.1 + (R.length + 1) := rfl
  rw [cr (by omega), ob, nO, ob]
  show ((crf (hadd (ext b (obj ci fs :: R)) c) ((ext b (obj ci fs :: R)).1 + 1)).bind fun _ => (putV (hadd (ext b (obj ci fs :: R)) c) ci a j (vr ((ext b (obj ci fs :: R)).1 + 1))).bind K) = _
  rw [ext_add, e1, show b.1 + (R.length + 1) + 1 = q by omega, cr (by rw [ext_1]; simp only [List.length_append, List.length_cons, List.length_nil]; omega), ob]
  exact setS ha hj e K
theorem compE {a : Nat} (ha : a = b.1 + 1) {j : Nat} {q : Nat} (hq : b.1 + 1 + R.length + 1 = q) {c2 : Nat} {f2 : List AV} {cs : List AC} (I : Nat → Hp → Option Hp) (hI : I q (ext (ext b (obj ci fs :: R)) [obj c2 f2]) = some (ext (ext b (obj ci fs :: R)) cs)) (hc : 1 ≤ cs.length) (hj : j < fs.length) (e : fs.set j (vr q) = fs') (K : Hp → Option β) : ((crf (ext b (obj ci fs :: R)) a).bind fun _ => (newO (ext b (obj ci fs :: R)) (obj c2 f2)).bind fun p => (cob p.2 c2 p.1).bind fun _ => (crf p.2 p.1).bind fun _ => (crf p.2 a).bind fun _ => (I p.1 p.2).bind fun h7 => (crf h7 p.1).bind fun _ => (putV h7 ci a j (vr p.1)).bind K) = K (ext b (obj ci fs' :: (R ++ cs))) := by
  have e1 : (ext b (obj ci fs :: R)).1 = b.1 + (R.length + 1) := rfl
  have e2 : hadd (ext b (obj ci fs :: R)) (obj c2 f2) = ext (ext b (obj ci fs :: R)) [obj c2 f2] := by
    rw [ext_add, ext_ext]
  rw [cr (by omega), ob, nO, ob]
  show ((cob (hadd (ext b (obj ci fs :: R)) (obj c2 f2)) c2 ((ext b (obj ci fs :: R)).1 + 1)).bind fun _ => (crf (hadd (ext b (obj ci fs :: R)) (obj c2 f2)) ((ext b (obj ci fs :: R)).1 + 1)).bind fun _ => (crf (hadd (ext b (obj ci fs :: R)) (obj c2 f2)) a).bind fun _ => (I ((ext b (obj ci fs :: R)).1 + 1) (hadd (ext b (obj ci fs :: R)) (obj c2 f2))).bind fun h7 => (crf h7 ((ext b (obj ci fs :: R)).1 + 1)).bind fun _ => (putV h7 ci a j (vr ((ext b (obj ci fs :: R)).1 + 1))).bind K) = _
  rw [e2, e1, show b.1 + (R.length + 1) + 1 = q by omega, co (hdS (b := ext b (obj ci fs :: R)) (R := []) (by rw [e1]; omega)), ob, cr (by rw [ext_1, e1]; simp only [List.length_cons, List.length_nil]; omega), ob, cr (by rw [ext_1, e1]; simp only [List.length_cons, List.length_nil]; omega), ob, hI, ob, cr (by rw [ext_1, e1]; omega), ob, ext_ext]
  exact setS ha hj e K
theorem compS {a : Nat} (ha : a = b.1 + 1) {j : Nat} {q : Nat} (hq : b.1 + 1 + R.length + 1 = q) {c2 : Nat} {f2 : List AV} {cs : List AC} (I : Nat → Hp → Option Hp) (hI : ∀ b' : Hp, b'.1 + 1 = q → I q (ext b' [obj c2 f2]) = some (ext b' cs)) (hc : 1 ≤ cs.length) (hj : j < fs.length) (e : fs.set j (vr q) = fs') (K : Hp → Option β) : ((crf (ext b (obj ci fs :: R)) a).bind fun _ => (newO (ext b (obj ci fs :: R)) (obj c2 f2)).bind fun p => (cob p.2 c2 p.1).bind fun _ => (crf p.2 p.1).bind fun _ => (crf p.2 a).bind fun _ => (I p.1 p.2).bind fun h7 => (crf h7 p.1).bind fun _ => (putV h7 ci a j (vr p.1)).bind K) = K (ext b (obj ci fs' :: (R ++ cs))) := by
  have e1 : (ext b (obj ci fs :: R)).1 = b.1 + (R.length + 1) := rfl
  exact compE ha hq I (hI _ (by rw [e1]; omega)) hc hj e K
end
def cPt (q : Nat) : List AC := [obj 5 [vi 0, vi 0, vr (q + 1), vr (q + 2)], arr 0 12 (fun _ => 0), arr 0 13 (fun _ => 0)]
theorem i_pt (q : Nat) (b : Hp) (hb : b.1 + 1 = q) : fX6_init q (ext b [obj 5 [vi 0, vi 0, vr 0, vr 0]]) = some (ext b (cPt q)) := by
  unfold fX6_init
  rw [co (hdS hb.symm), ob, setS hb.symm (by simp) rfl, setS hb.symm (by simp) rfl, rowS hb.symm (q := q + 1) (by simp; omega) (by simp) rfl, rowS hb.symm (q := q + 2) (by simp; omega) (by simp) rfl]
  rfl
def cSc (q : Nat) : List AC := [obj 6 [vi 1, vr (q + 1), vr (q + 2), vr (q + 3), vr (q + 4), vr (q + 5)], arr 0 48 (fun _ => 0), arr 0 144 (fun _ => 0), arr 0 144 (fun _ => 0), arr 0 144 (fun _ => 0)] ++ cPt (q + 5)
theorem i_sc (q : Nat) (b : Hp) (hb : b.1 + 1 = q) : fX7_init q (ext b [obj 6 [vi 0, vr 0, vr 0, vr 0, vr 0, vr 0]]) = some (ext b (cSc q)) := by
  unfold fX7_init
  rw [co (hdS hb.symm), ob, setS hb.symm (by simp) rfl, rowS hb.symm (q := q + 1) (by simp; omega) (by simp) rfl, rowS hb.symm (q := q + 2) (by simp; omega) (by simp) rfl, rowS hb.symm (q := q + 3) (by simp; omega) (by simp) rfl, rowS hb.symm (q := q + 4) (by simp; omega) (by simp) rfl,
    compS hb.symm (q := q + 5) (by simp; omega) fX6_init (fun b' h' => i_pt (q + 5) b' h') (by simp [cPt]) (by simp) rfl]
  rfl
def cHi (q : Nat) : List AC := [obj 0 [vi 0, vi 0, vr (q + 1)], rar 6 20 (fun _ => 0)]
theorem i_hi (q : Nat) (b : Hp) (hb : b.1 + 1 = q) : fX1_init q (ext b [obj 0 [vi 0, vi 0, vr 0]]) = some (ext b (cHi q)) := by
  unfold fX1_init
  rw [co (hdS hb.symm), ob, setS hb.symm (by simp) rfl, setS hb.symm (by simp) rfl, rowS hb.symm (q := q + 1) (by simp; omega) (by simp) rfl]
  rfl
def cSh (q : Nat) : List AC := [obj 8 [vi (-1), vi (-1), vr (q + 1)], arr 1 8 (fun _ => 0)]
theorem i_sh (q : Nat) (b : Hp) (hb : b.1 + 1 = q) : fX9_init q (ext b [obj 8 [vi 0, vi 0, vr 0]]) = some (ext b (cSh q)) := by
  unfold fX9_init
  rw [co (hdS hb.symm), ob, setS hb.symm (by simp) rfl, setS hb.symm (by simp) rfl, rowS hb.symm (q := q + 1) (by simp; omega) (by simp) rfl]
  rfl
def cTr (q : Nat) : List AC := [obj 9 [vi (-1), vi 0, vr (q + 1), vr (q + 2), vr (q + 3), vr (q + 4), vi 0], arr 0 12 (fun _ => 0), arr 0 12 (fun _ => 0), arr 0 12 (fun _ => 0), arr 0 144 (fun _ => 0)]
theorem i_tr (q : Nat) (b : Hp) (hb : b.1 + 1 = q) : fX10_init q (ext b [obj 9 [vi 0, vi 0, vr 0, vr 0, vr 0, vr 0, vi 0]]) = some (ext b (cTr q)) := by
  unfold fX10_init
  rw [co (hdS hb.symm), ob, setS hb.symm (by simp) rfl, setS hb.symm (by simp) rfl, rowS hb.symm (q := q + 1) (by simp; omega) (by simp) rfl, rowS hb.symm (q := q + 2) (by simp; omega) (by simp) rfl, rowS hb.symm (q := q + 3) (by simp; omega) (by simp) rfl, rowS hb.symm (q := q + 4) (by simp; omega) (by simp) rfl, setS hb.symm (by simp) rfl]
  rfl
def cMv (q : Nat) : List AC := [obj 3 [vr (q + 1), vr (q + 2), vl 0], arr 0 12 (fun _ => 0), arr 1 12 (fun _ => 0)]
theorem i_mv (q : Nat) (b : Hp) (hb : b.1 + 1 = q) : fX4_init q (ext b [obj 3 [vr 0, vr 0, vl 0]]) = some (ext b (cMv q)) := by
  unfold fX4_init
  rw [co (hdS hb.symm), ob, rowS hb.symm (q := q + 1) (by simp; omega) (by simp) rfl, rowS hb.symm (q := q + 2) (by simp; omega) (by simp) rfl, setS hb.symm (by simp) rfl]
  rfl
def cLk (q : Nat) : List AC := [obj 1 [vr (q + 1), vr (q + 2)], arr 0 12 (fun _ => 0), arr 1 128 (fun _ => 0)]
theorem i_lk (q : Nat) (b : Hp) (hb : b.1 + 1 = q) : fX2_init q (ext b [obj 1 [vr 0, vr 0]]) = some (ext b (cLk q)) := by
  unfold fX2_init
  rw [co (hdS hb.symm), ob, rowS hb.symm (q := q + 1) (by simp; omega) (by simp) rfl, rowS hb.symm (q := q + 2) (by simp; omega) (by simp) rfl]
  rfl
def cLi (q : Nat) : List AC := [obj 2 [vr (q + 1), vr (q + 2), vr (q + 3), vr (q + 6)], arr 0 12 (fun _ => 0), arr 1 144 (fun _ => 0)] ++ cPt (q + 3) ++ cSc (q + 6)
theorem i_li (q : Nat) (b : Hp) (hb : b.1 + 1 = q) : fX3_init q (ext b [obj 2 [vr 0, vr 0, vr 0, vr 0]]) = some (ext b (cLi q)) := by
  unfold fX3_init
  rw [co (hdS hb.symm), ob, rowS hb.symm (q := q + 1) (by simp; omega) (by simp) rfl, rowS hb.symm (q := q + 2) (by simp; omega) (by simp) rfl,
    compS hb.symm (q := q + 3) (by simp; omega) fX6_init (fun b' h' => i_pt (q + 3) b' h') (by simp [cPt]) (by simp) rfl,
    compS hb.symm (q := q + 6) (by simp [cPt]; omega) fX7_init (fun b' h' => i_sc (q + 6) b' h') (by simp [cSc, cPt]) (by simp) rfl]
  rfl
