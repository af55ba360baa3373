/-! the judgement J: from an abstract frame and heap the machine comes to a return with Q -/
def avk (n : Nat) : AV → Prop
  | .inl (.inl z) => R32 z
  | .inl (.inr z) => R64 z
  | .inr (.inl q) => q ≤ n ∨ 1000000 ≤ q
  | .inr (.inr _) => True
def cac (n : Nat) : AC → Prop
  | .inl (kd, m, f) => m < 2147483648 ∧ ∀ j, if kd = 1 then R64 (f j) else R32 (f j)
  | .inr (.inl (_, m, f)) => m < 2147483648 ∧ ∀ j, f j ≤ n ∨ 1000000 ≤ f j
  | .inr (.inr (_, fs)) => ∀ (k : Nat) (v : AV), fs[k]? = some v → avk n v
def cv (ad : Nat → Nat) : AV → Value
  | .inl (.inl z) => .int (Int32.ofInt z)
  | .inl (.inr z) => .long (Int64.ofInt z)
  | .inr (.inl q) => if q = 0 then .null else .ref (ad q)
  | .inr (.inr _) => .null
def ce (cA ad : Nat → Nat) (k : Nat) : AC → va_E
  | .inl (kd, n, f) => .inl (cA k, n, if kd = 1 then .inr (.inl fun j => Int64.ofInt (f j)) else .inl fun j => Int32.ofInt (f j))
  | .inr (.inl (_, n, f)) => .inl (cA k, n, .inr (.inr (.inr (.inr fun j => if f j = 0 then none else some (ad (f j))))))
  | .inr (.inr (ci, fs)) => .inr (ci, fs.map (cv ad))
def wsl (cA ad : Nat → Nat) (h : Hp) : va_W := (List.range h.1).map fun k => (ad (k + 1), ce cA ad (k + 1) ((h.2 (k + 1)).getD (obj 0 [])))
def tyk (kd : Nat) : FieldType := if kd = 0 then .int else if kd = 1 then .long else .boolean
def clN (ci : Nat) : String := match vwCl[ci]? with | some r => r.1 | none => ""
/-- an array's own class, as the tables have it -/
def aok (s : State) (cA : ClassId) : AC → Prop
  | .inl (kd, _, _) => kd ≤ 2 ∧ ArrOfT s cA (tyk kd) ∧ va_RA s cA (tyk kd)
  | .inr (.inl (ci, _, _)) => ArrOfT s cA (.object (clN ci)) ∧ va_RA s cA (.object (clN ci))
  | .inr (.inr _) => True
def WFh (h : Hp) : Prop := (∀ (k : Nat) (c : AC), h.2 k = some c → 1 ≤ k ∧ k ≤ h.1 ∧ cac h.1 c) ∧ ∀ k : Nat, 1 ≤ k → k ≤ h.1 → ∃ c, h.2 k = some c
/-- the law's script and the bench's static row have numbers of their own -/
def sp (b t k : Nat) : Nat := if k = 1000000 then b else if k = 1000001 then t else 0
def WO (D : va_G) (cA ad : Nat → Nat) (base b t : Nat) (h : Hp) (s : State) (H : Heap) : Prop :=
  va_K D vwCl [] s ∧ (∀ (k : Nat) (c : AC), h.2 k = some c → aok s (cA k) c) ∧ va_P D vwCl (wsl cA ad h) H ∧ va_D (fun q => base ≤ q) (wsl cA ad h) ∧ WFh h ∧ ∀ k : Nat, h.1 < k → ad k = sp b t k
def gtb : List Cond := lw_tbl.filter goodWord
def isNest : Cond → Bool
  | .methodLinkNest _ _ _ _ => true
  | _ => false
def nwl : List Cond := lw_tbl.filter isNest
def NW (s : State) : Prop := (∀ w ∈ nwl, va_Nw w s) ∧ va_AO RX6 s ∧ va_AO RX7 s
def OL (L : Nat) (xs : Nat → Int32) (b t base : Nat) (s : State) (H : Heap) : Prop :=
  va_X b L xs s H ∧ b < base ∧ base ≤ H.size ∧ va_Z RX2 "ORDERS" "[I" (.ref t) (fun q => base ≤ q) s H ∧ va_T .int t 8 (fun j => .int (Int32.ofInt (ordN j))) (fun q => base ≤ q) s H ∧ NW s
def CT (L : Nat) (xs : Nat → Int32) (own : String) (cc : ByteArray) (nL : Nat) (ini : Bool) (d rc rs : Nat) (h : Hp) (p : Program) (R : Room) (s : State) (m : MethodId) (args : Array Value) (meth : Method) (c : Code) (H : Heap) (locs : List Loc) (cells slots TC TS n0 n1 : Nat) (D : va_G) (cA ad ad0 : Nat → Nat) (base b t : Nat) : Prop :=
  (p.tables.exec = Jvm.exec ∧ c.code = cc ∧ c.maxLocals = nL ∧ s.vm.findClass own = some m.cls ∧ (∀ w ∈ gtb, w.before args s = true) ∧ (ini = true → meth.name = "<init>")) ∧
  (d ≤ R.frames ∧ 64 * d ≤ R.locals ∧ TC ≤ R.cells ∧ TS ≤ R.slots ∧ cells + rc ≤ TC ∧ slots + rs ≤ TS ∧ n0 ≤ h.1 ∧ h.1 + rc ≤ n1 ∧ n1 < 1000000 ∧ ∀ k : Nat, k ≤ n0 → ad k = ad0 k) ∧
  OL L xs b t base s s.heap ∧ WO D cA ad base b t h s H ∧ va_S (fun q => base ≤ q) s.heap H locs
def RetAt (cc : ByteArray) (pc : Nat) (r : AV) : Prop := (∃ z, r = vi z ∧ decode cc pc = .ok (.ireturn, 1)) ∨ (∃ z, r = vl z ∧ decode cc pc = .ok (.lreturn, 1)) ∨ (r = vu ∧ decode cc pc = .ok (.return_, 1))
def retst (r : AV) : List Value := match r with
  | .inl (.inl z) => [.int (Int32.ofInt z)]
  | .inl (.inr z) => [.long (Int64.ofInt z)]
  | _ => []
def RT (l : Launch) (cc : ByteArray) (Q : AV → Hp → Prop) (p : Program) (e : Env) (R : Room) (s : State) (m : MethodId) (args : Array Value) (below : List Frame) (meth : Method) (c : Code) (TC TS n0 n1 : Nat) (D : va_G) (ad0 : Nat → Nat) (base b t : Nat) (Z : State → Prop) : Prop :=
  ∀ (r : AV) (h' : Hp) (cA' ad' : Nat → Nat) (H' : Heap) (locs' : List Loc) (cells' slots' pc' : Nat) (ls' : Array Slot), Q r h' → avk 0 r → n0 ≤ h'.1 → h'.1 ≤ n1 → (∀ k : Nat, k ≤ n0 → ad' k = ad0 k) → WO D cA' ad' base b t h' s H' → va_S (fun q => base ≤ q) s.heap H' locs' → cells' ≤ TC → slots' ≤ TS → RetAt cc pc' r →
    W p l e R s m args below meth c H' locs' cells' slots' Z (F0 m pc' ls' (retst r))
def lvm (ad : Nat → Nat) (lv : List (Nat × AV)) : List (Nat × Value) := lv.map fun q => (q.1, cv ad q.2)
def J (L : Nat) (xs : Nat → Int32) (l : Launch) (own : String) (cc : ByteArray) (nL : Nat) (ini : Bool) (d : Nat) (Q : AV → Hp → Prop) (rc rs pc : Nat) (lv : List (Nat × AV)) (st : List AV) (h : Hp) : Prop :=
  ∀ (p : Program) (e : Env) (R : Room) (s : State) (m : MethodId) (args : Array Value) (below : List Frame) (meth : Method) (c : Code) (H : Heap) (locs : List Loc) (cells slots TC TS n0 n1 : Nat) (D : va_G) (cA ad ad0 : Nat → Nat) (base b t : Nat) (ls : Array Slot) (Z : State → Prop),
    CT L xs own cc nL ini d rc rs h p R s m args meth c H locs cells slots TC TS n0 n1 D cA ad ad0 base b t → lv_has ls nL (lvm ad lv) → RT l cc Q p e R s m args below meth c TC TS n0 n1 D ad0 base b t Z →
    W p l e R s m args below meth c H locs cells slots Z (F0 m pc ls (st.map (cv ad)))
-- the list of the world's cells
theorem wsl_len (cA ad : Nat → Nat) (h : Hp) : (wsl cA ad h).length = h.1 := by simp [wsl]
theorem wsl_get {cA ad : Nat → Nat} {h : Hp} (k : Nat) (hk : k < h.1) : (wsl cA ad h)[k]? = some (ad (k + 1), ce cA ad (k + 1) ((h.2 (k + 1)).getD (obj 0 []))) := by
  simp [wsl, List.getElem?_range, hk]
theorem wsl_at {cA ad : Nat → Nat} {h : Hp} {q : Nat} {c : AC} (hW : WFh h) (hq : h.2 q = some c) : (wsl cA ad h)[q - 1]? = some (ad q, ce cA ad q c) := by
  obtain ⟨h1, h2, -⟩ := hW.1 q c hq
  have e : q - 1 + 1 = q := by omega
  rw [wsl_get (q - 1) (by omega), e, hq]; rfl
theorem wsl_put {cA ad : Nat → Nat} {h : Hp} {q : Nat} {c : AC} (c' : AC) (hW : WFh h) (hq : h.2 q = some c) : (wsl cA ad h).set (q - 1) (ad q, ce cA ad q c') = wsl cA ad (hput h q c') := by
  obtain ⟨h1, h2, -⟩ := hW.1 q c hq
  apply List.ext_getElem?
  intro k
  by_cases hk : k < h.1
  · rw [wsl_get (h := hput h q c') k hk]
    by_cases he : q - 1 = k
    · subst he
      have e : q - 1 + 1 = q := by omega
      rw [List.getElem?_set_self (by rw [wsl_len]; exact hk), e]
      simp [hput]
    · rw [List.getElem?_set_ne he, wsl_get k hk]
      have : ¬ k + 1 = q := by omega
      simp [hput, this]
  · rw [List.getElem?_eq_none (by rw [List.length_set, wsl_len]; omega), List.getElem?_eq_none (by rw [wsl_len]; exact Nat.not_lt.mp hk)]
theorem WFh_put {h : Hp} {q : Nat} {c c' : AC} (hW : WFh h) (hq : h.2 q = some c) (hc : cac h.1 c') : WFh (hput h q c') := by
  obtain ⟨h1, h2, -⟩ := hW.1 q c hq
  refine ⟨fun k x hk => ?_, fun k a1 a2 => ?_⟩
  · by_cases he : k = q
    · subst he
      simp only [hput, if_pos rfl] at hk
      cases hk
      exact ⟨h1, h2, hc⟩
    · simp only [hput, if_neg he] at hk
      exact hW.1 k x hk
  · by_cases he : k = q
    · subst he; exact ⟨c', by simp [hput]⟩
    · obtain ⟨x, hx⟩ := hW.2 k a1 a2
      exact ⟨x, by simp [hput, he, hx]⟩
theorem aok_put {s : State} {cA : Nat → Nat} {h : Hp} {q : Nat} {c c' : AC} (hA : ∀ (k : Nat) (x : AC), h.2 k = some x → aok s (cA k) x) (hc : aok s (cA q) c') : ∀ (k : Nat) (x : AC), (hput h q c').2 k = some x → aok s (cA k) x := by
  intro k x hk
  by_cases he : k = q
  · subst he
    simp only [hput, if_pos rfl] at hk
    cases hk
    exact hc
  · simp only [hput, if_neg he] at hk
    exact hA k x hk
theorem WO_put {D : va_G} {cA ad : Nat → Nat} {base b t : Nat} {h : Hp} {s : State} {H H1 : Heap} {q : Nat} {c : AC} (c' : AC) (hO : WO D cA ad base b t h s H) (hq : h.2 q = some c) (hc : cac h.1 c') (ha : aok s (cA q) c')
    (hP : va_P D vwCl ((wsl cA ad h).set (q - 1) (ad q, ce cA ad q c')) H1) (hD : va_D (fun q => base ≤ q) ((wsl cA ad h).set (q - 1) (ad q, ce cA ad q c'))) : WO D cA ad base b t (hput h q c') s H1 := by
  obtain ⟨o1, o2, o3, o4, o5, o6⟩ := hO
  rw [wsl_put c' o5 hq] at hP hD
  exact ⟨o1, aok_put (c := c) o2 ha, hP, hD, WFh_put o5 hq hc, o6⟩
/-- a changed heap of the same size: the context goes on -/
theorem CT_put {L : Nat} {xs : Nat → Int32} {own : String} {cc : ByteArray} {nL : Nat} {ini : Bool} {d rc rs : Nat} {h : Hp} {p : Program} {R : Room} {s : State} {m : MethodId} {args : Array Value} {meth : Method} {c : Code} {H H1 : Heap} {locs locs1 : List Loc} {cells slots TC TS n0 n1 : Nat} {D : va_G} {cA ad ad0 : Nat → Nat} {base b t : Nat} {h' : Hp}
    (X : CT L xs own cc nL ini d rc rs h p R s m args meth c H locs cells slots TC TS n0 n1 D cA ad ad0 base b t) (hn : h'.1 = h.1) (hO : WO D cA ad base b t h' s H1) (hS : va_S (fun q => base ≤ q) s.heap H1 locs1) : CT L xs own cc nL ini d rc rs h' p R s m args meth c H1 locs1 cells slots TC TS n0 n1 D cA ad ad0 base b t := by
  obtain ⟨x1, x2, x3, -, -⟩ := X
  refine ⟨x1, ?_, x3, hO, hS⟩
  rw [hn]; exact x2
