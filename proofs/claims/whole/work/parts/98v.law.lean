/-! the law: call by call, and all calls -/
theorem ldS_n {L : Nat} {xs : Nat → Int32} {i : Int} (h0 : 0 ≤ i) (h1 : i < L) : ldS L xs i = some (xs i.toNat).toInt := if_pos ⟨h0, h1⟩
theorem cob_put {h : Hp} {ci q k : Nat} {v : AV} {β : Type} {f : Hp → Option β} {r : β} (e : (putV h ci q k v).bind f = some r) : cob h ci q = some () := by
  unfold putV at e
  unfold cob
  split at e
  · rename_i c fs hq
    rw [hq]
    by_cases z : c = ci
    · simp [z]
    · rw [if_neg (fun w => z w.1)] at e; exact absurd e (by simp)
  · exact absurd e (by simp)
theorem cob_get {h : Hp} {ci q k : Nat} {β : Type} {f : Int → Option β} {r : β} (e : (getI h ci q k).bind f = some r) : cob h ci q = some () := by
  unfold getI at e
  unfold cob
  split at e
  · rename_i c fs hq
    rw [hq]
    by_cases z : c = ci
    · simp [z]
    · rw [if_neg z] at e; exact absurd e (by simp)
  · exact absurd e (by simp)
theorem lOr_bd (a b : Int) : -9223372036854775808 ≤ lOr a b ∧ lOr a b ≤ 9223372036854775807 := by
  unfold lOr
  exact ⟨Int64.minValue_le_toInt _, Int64.toInt_le _⟩
theorem Both.hd {h : Hp} (B : Both h) : ∃ flt, h.2 1 = some (BO flt) := by
  obtain ⟨s, hist, x, flt, G, C, R⟩ := B
  exact ⟨flt, C.1⟩
theorem Both.le {h : Hp} (B : Both h) : 80 ≤ h.1 := by
  obtain ⟨s, hist, x, flt, G, C, R⟩ := B
  obtain ⟨A, nx, c3⟩ := C.2.2.1
  have := c3.1; omega
section
variable {L : Nat} {xs : Nat → Int32} {h : Hp}
theorem lc_things (B : Both h) (K : Nat → Nat → Nat → Int → Hp → Option (Int × Hp)) {x3 : Int} (h0 : 0 ≤ x3) (h1 : x3 + 5 ≤ L) (h2 : L ≤ 2560) : ∃ h', Both h' ∧ ((ldS L xs (x3 + 1)).bind fun v6 => (cob h 10 1).bind fun _ => (crf h 1000000).bind fun _ => (crf h 1).bind fun _ => (crf h 62).bind fun _ => (fX11_things 1 v6 h).bind fun p11 => (ldS L xs (x3 + 1)).bind fun v12 => (cob p11.2 11 62).bind fun _ => (fX12_things 62 v12 p11.2).bind fun p14 => if p11.1 = p14.1 then (fL_law_1223 L xs K 1000000 1 62 x3 p14.2) else (fL_law_213 L xs p14.2)) = K 1000000 1 62 (x3 + 5) h' := by
  obtain ⟨r, a, b, e1, e2, B2⟩ := both_things B ((xs (x3 + 1).toNat).toInt)
  obtain ⟨flt, o⟩ := B.hd
  have l80 := B.le
  have cb : cob a 11 62 = some () := cob_put (by have z := e2; unfold fX12_things at z; exact z)
  refine ⟨b, B2, ?_⟩
  rw [ldS_n (i := x3 + 1) (by omega) (by omega), ob, co o, ob, crf_big, ob, cr (q := 1) (by omega), ob, cr (q := 62) (by omega), ob, e1, ob, ob, cb, ob, e2, ob]
  show (if r = r then fL_law_1223 L xs K 1000000 1 62 x3 b else _) = _
  rw [if_pos rfl, fL_law_1223, c32_n (by omega) (by omega), ob]
theorem lc_way (B : Both h) (K : Nat → Nat → Nat → Int → Hp → Option (Int × Hp)) {x3 : Int} (h0 : 0 ≤ x3) (h1 : x3 + 5 ≤ L) (h2 : L ≤ 2560) : ∃ h', Both h' ∧ ((ldS L xs (x3 + 1)).bind fun v17 => (ldS L xs (x3 + 2)).bind fun v18 => (ldS L xs (x3 + 3)).bind fun v19 => (cob h 10 1).bind fun _ => (crf h 1000000).bind fun _ => (crf h 1).bind fun _ => (crf h 62).bind fun _ => (fX11_way 1 v17 v18 v19 h).bind fun p24 => (ldS L xs (x3 + 1)).bind fun v25 => (ldS L xs (x3 + 2)).bind fun v26 => (ldS L xs (x3 + 3)).bind fun v27 => (cob p24.2 11 62).bind fun _ => (fX12_way 62 v25 v26 v27 p24.2).bind fun p29 => if p24.1 = p29.1 then (fL_law_1223 L xs K 1000000 1 62 x3 p29.2) else (fL_law_256 L xs p29.2)) = K 1000000 1 62 (x3 + 5) h' := by
  obtain ⟨r, a, b, e1, e2, B2⟩ := both_way B ((xs (x3 + 1).toNat).toInt) ((xs (x3 + 2).toNat).toInt) ((xs (x3 + 3).toNat).toInt)
  obtain ⟨flt, o⟩ := B.hd
  have l80 := B.le
  have cb : cob a 11 62 = some () := cob_put (by have z := e2; unfold fX12_way at z; exact z)
  refine ⟨b, B2, ?_⟩
  rw [ldS_n (i := x3 + 1) (by omega) (by omega), ob, ldS_n (i := x3 + 2) (by omega) (by omega), ob, ldS_n (i := x3 + 3) (by omega) (by omega), ob, co o, ob, crf_big, ob, cr (q := 1) (by omega), ob, cr (q := 62) (by omega), ob, e1, ob, ob, ob, ob, cb, ob, e2, ob]
  show (if r = r then fL_law_1223 L xs K 1000000 1 62 x3 b else _) = _
  rw [if_pos rfl, fL_law_1223, c32_n (by omega) (by omega), ob]
theorem lc_sheet (B : Both h) (K : Nat → Nat → Nat → Int → Hp → Option (Int × Hp)) {x3 : Int} (h0 : 0 ≤ x3) (h1 : x3 + 5 ≤ L) (h2 : L ≤ 2560) : ∃ h', Both h' ∧ ((ldS L xs (x3 + 1)).bind fun v32 => (ldS L xs (x3 + 2)).bind fun v33 => (cob h 10 1).bind fun _ => (fX11_sheet 1 v32 v33 h).bind fun p35 => (ldS L xs (x3 + 1)).bind fun v36 => (ldS L xs (x3 + 2)).bind fun v37 => (cob p35.2 11 62).bind fun _ => (fX12_sheet 62 v36 v37 p35.2).bind fun p39 => if p35.1 = p39.1 then (fL_law_1223 L xs K 1000000 1 62 x3 p39.2) else (fL_law_289 L xs p39.2)) = K 1000000 1 62 (x3 + 5) h' := by
  obtain ⟨r, a, b, e1, e2, B2⟩ := both_sheet B ((xs (x3 + 1).toNat).toInt) ((xs (x3 + 2).toNat).toInt)
  obtain ⟨flt, o⟩ := B.hd
  have l80 := B.le
  have cb : cob a 11 62 = some () := cob_put (by have z := e2; unfold fX12_sheet at z; exact z)
  refine ⟨b, B2, ?_⟩
  rw [ldS_n (i := x3 + 1) (by omega) (by omega), ob, ldS_n (i := x3 + 2) (by omega) (by omega), ob, co o, ob, e1, ob, ob, ob, cb, ob, e2, ob]
  show (if r = r then fL_law_1223 L xs K 1000000 1 62 x3 b else _) = _
  rw [if_pos rfl, fL_law_1223, c32_n (by omega) (by omega), ob]
theorem lc_entry (B : Both h) (K : Nat → Nat → Nat → Int → Hp → Option (Int × Hp)) {x3 : Int} (h0 : 0 ≤ x3) (h1 : x3 + 5 ≤ L) (h2 : L ≤ 2560) : ∃ h', Both h' ∧ ((ldS L xs (x3 + 1)).bind fun v42 => (ldS L xs (x3 + 2)).bind fun v43 => (ldS L xs (x3 + 3)).bind fun v44 => (cob h 10 1).bind fun _ => (fX11_entry 1 v42 (lOr (lShl v43 32) (lAnd v44 4294967295)) h).bind fun p46 => (ldS L xs (x3 + 1)).bind fun v47 => (ldS L xs (x3 + 2)).bind fun v48 => (ldS L xs (x3 + 3)).bind fun v49 => (cob p46.2 11 62).bind fun _ => (fX12_entry 62 v47 (lOr (lShl v48 32) (lAnd v49 4294967295)) p46.2).bind fun p51 => if p46.1 = p51.1 then (fL_law_1223 L xs K 1000000 1 62 x3 p51.2) else (fL_law_352 L xs p51.2)) = K 1000000 1 62 (x3 + 5) h' := by
  obtain ⟨r, a, b, e1, e2, B2⟩ := both_entry B ((xs (x3 + 1).toNat).toInt) ((lOr (lShl (xs (x3 + 2).toNat).toInt 32) (lAnd (xs (x3 + 3).toNat).toInt 4294967295))) (lOr_bd _ _)
  obtain ⟨flt, o⟩ := B.hd
  have l80 := B.le
  have cb : cob a 11 62 = some () := cob_put (by have z := e2; unfold fX12_entry at z; exact z)
  refine ⟨b, B2, ?_⟩
  rw [ldS_n (i := x3 + 1) (by omega) (by omega), ob, ldS_n (i := x3 + 2) (by omega) (by omega), ob, ldS_n (i := x3 + 3) (by omega) (by omega), ob, co o, ob, e1, ob, ob, ob, ob, cb, ob, e2, ob]
  show (if r = r then fL_law_1223 L xs K 1000000 1 62 x3 b else _) = _
  rw [if_pos rfl, fL_law_1223, c32_n (by omega) (by omega), ob]
theorem lc_lay (B : Both h) (K : Nat → Nat → Nat → Int → Hp → Option (Int × Hp)) {x3 : Int} (h0 : 0 ≤ x3) (h1 : x3 + 5 ≤ L) (h2 : L ≤ 2560) : ∃ h', Both h' ∧ ((ldS L xs (x3 + 1)).bind fun v54 => (cob h 10 1).bind fun _ => (crf h 1000000).bind fun _ => (crf h 1).bind fun _ => (crf h 62).bind fun _ => (fX11_lay 1 v54 h).bind fun p59 => (ldS L xs (x3 + 1)).bind fun v60 => (cob p59.2 11 62).bind fun _ => (fX12_lay 62 v60 p59.2).bind fun p62 => if p59.1 = p62.1 then (fL_law_1223 L xs K 1000000 1 62 x3 p62.2) else (fL_law_375 L xs p62.2)) = K 1000000 1 62 (x3 + 5) h' := by
  obtain ⟨r, a, b, e1, e2, B2⟩ := both_lay B ((xs (x3 + 1).toNat).toInt)
  obtain ⟨flt, o⟩ := B.hd
  have l80 := B.le
  have cb : cob a 11 62 = some () := cob_put (by have z := e2; unfold fX12_lay at z; exact z)
  refine ⟨b, B2, ?_⟩
  rw [ldS_n (i := x3 + 1) (by omega) (by omega), ob, co o, ob, crf_big, ob, cr (q := 1) (by omega), ob, cr (q := 62) (by omega), ob, e1, ob, ob, cb, ob, e2, ob]
  show (if r = r then fL_law_1223 L xs K 1000000 1 62 x3 b else _) = _
  rw [if_pos rfl, fL_law_1223, c32_n (by omega) (by omega), ob]
theorem lc_measure (B : Both h) (K : Nat → Nat → Nat → Int → Hp → Option (Int × Hp)) {x3 : Int} (h0 : 0 ≤ x3) (h1 : x3 + 5 ≤ L) (h2 : L ≤ 2560) : ∃ h', Both h' ∧ ((ldS L xs (x3 + 1)).bind fun v65 => (cob h 10 1).bind fun _ => (crf h 1000000).bind fun _ => (crf h 1).bind fun _ => (crf h 62).bind fun _ => (fX11_measure 1 v65 h).bind fun p70 => (ldS L xs (x3 + 1)).bind fun v71 => (cob p70.2 11 62).bind fun _ => (fX12_measure 62 v71 p70.2).bind fun p73 => if p70.1 = p73.1 then (fL_law_1223 L xs K 1000000 1 62 x3 p73.2) else (fL_law_398 L xs p73.2)) = K 1000000 1 62 (x3 + 5) h' := by
  obtain ⟨r, a, b, e1, e2, B2⟩ := both_measure B ((xs (x3 + 1).toNat).toInt)
  obtain ⟨flt, o⟩ := B.hd
  have l80 := B.le
  have cb : cob a 11 62 = some () := cob_put (by have z := e2; unfold fX12_measure at z; exact z)
  refine ⟨b, B2, ?_⟩
  rw [ldS_n (i := x3 + 1) (by omega) (by omega), ob, co o, ob, crf_big, ob, cr (q := 1) (by omega), ob, cr (q := 62) (by omega), ob, e1, ob, ob, cb, ob, e2, ob]
  show (if r = r then fL_law_1223 L xs K 1000000 1 62 x3 b else _) = _
  rw [if_pos rfl, fL_law_1223, c32_n (by omega) (by omega), ob]
theorem lc_put (B : Both h) (K : Nat → Nat → Nat → Int → Hp → Option (Int × Hp)) {x3 : Int} (h0 : 0 ≤ x3) (h1 : x3 + 5 ≤ L) (h2 : L ≤ 2560) : ∃ h', Both h' ∧ ((ldS L xs (x3 + 1)).bind fun v82 => (ldS L xs (x3 + 2)).bind fun v83 => (cob h 10 1).bind fun _ => (crf h 1000000).bind fun _ => (crf h 1).bind fun _ => (crf h 62).bind fun _ => (fX11_put 1 v82 v83 h).bind fun p88 => (ldS L xs (x3 + 1)).bind fun v89 => (ldS L xs (x3 + 2)).bind fun v90 => (cob p88.2 11 62).bind fun _ => (fX12_put 62 v89 v90 p88.2).bind fun p92 => if p88.1 = p92.1 then (fL_law_1223 L xs K 1000000 1 62 x3 p92.2) else (fL_law_500 L xs p92.2)) = K 1000000 1 62 (x3 + 5) h' := by
  obtain ⟨r, a, b, e1, e2, B2⟩ := both_put B ((xs (x3 + 1).toNat).toInt) ((xs (x3 + 2).toNat).toInt)
  obtain ⟨flt, o⟩ := B.hd
  have l80 := B.le
  have cb : cob a 11 62 = some () := cob_put (by have z := e2; unfold fX12_put at z; exact z)
  refine ⟨b, B2, ?_⟩
  rw [ldS_n (i := x3 + 1) (by omega) (by omega), ob, ldS_n (i := x3 + 2) (by omega) (by omega), ob, co o, ob, crf_big, ob, cr (q := 1) (by omega), ob, cr (q := 62) (by omega), ob, e1, ob, ob, ob, cb, ob, e2, ob]
  show (if r = r then fL_law_1223 L xs K 1000000 1 62 x3 b else _) = _
  rw [if_pos rfl, fL_law_1223, c32_n (by omega) (by omega), ob]
theorem lc_count (B : Both h) (K : Nat → Nat → Nat → Int → Hp → Option (Int × Hp)) {x3 : Int} (h0 : 0 ≤ x3) (h1 : x3 + 5 ≤ L) (h2 : L ≤ 2560) : ∃ h', Both h' ∧ ((ldS L xs (x3 + 1)).bind fun v95 => (cob h 10 1).bind fun _ => (fX11_count 1 v95 h).bind fun p97 => (ldS L xs (x3 + 1)).bind fun v98 => (cob p97.2 11 62).bind fun _ => (fX12_count 62 v98 p97.2).bind fun p100 => if p97.1 = p100.1 then (fL_law_1223 L xs K 1000000 1 62 x3 p100.2) else (fL_law_523 L xs p100.2)) = K 1000000 1 62 (x3 + 5) h' := by
  obtain ⟨r, a, b, e1, e2, B2⟩ := both_count B ((xs (x3 + 1).toNat).toInt)
  obtain ⟨flt, o⟩ := B.hd
  have l80 := B.le
  have cb : cob a 11 62 = some () := cob_put (by have z := e2; unfold fX12_count at z; exact z)
  refine ⟨b, B2, ?_⟩
  rw [ldS_n (i := x3 + 1) (by omega) (by omega), ob, co o, ob, e1, ob, ob, cb, ob, e2, ob]
  show (if r = r then fL_law_1223 L xs K 1000000 1 62 x3 b else _) = _
  rw [if_pos rfl, fL_law_1223, c32_n (by omega) (by omega), ob]
theorem lc_heap (B : Both h) (K : Nat → Nat → Nat → Int → Hp → Option (Int × Hp)) {x3 : Int} (h0 : 0 ≤ x3) (h1 : x3 + 5 ≤ L) (h2 : L ≤ 2560) : ∃ h', Both h' ∧ ((ldS L xs (x3 + 1)).bind fun v103 => (cob h 10 1).bind fun _ => (fX11_heap 1 v103 h).bind fun p105 => (ldS L xs (x3 + 1)).bind fun v106 => (cob p105.2 11 62).bind fun _ => (fX12_heap 62 v106 p105.2).bind fun p108 => if p105.1 = p108.1 then (fL_law_1223 L xs K 1000000 1 62 x3 p108.2) else (fL_law_546 L xs p108.2)) = K 1000000 1 62 (x3 + 5) h' := by
  obtain ⟨r, a, b, e1, e2, B2⟩ := both_heap B ((xs (x3 + 1).toNat).toInt)
  obtain ⟨flt, o⟩ := B.hd
  have l80 := B.le
  have cb : cob a 11 62 = some () := cob_put (by have z := e2; unfold fX12_heap at z; exact z)
  refine ⟨b, B2, ?_⟩
  rw [ldS_n (i := x3 + 1) (by omega) (by omega), ob, co o, ob, e1, ob, ob, cb, ob, e2, ob]
  show (if r = r then fL_law_1223 L xs K 1000000 1 62 x3 b else _) = _
  rw [if_pos rfl, fL_law_1223, c32_n (by omega) (by omega), ob]
theorem lc_pair (B : Both h) (K : Nat → Nat → Nat → Int → Hp → Option (Int × Hp)) {x3 : Int} (h0 : 0 ≤ x3) (h1 : x3 + 5 ≤ L) (h2 : L ≤ 2560) : ∃ h', Both h' ∧ ((ldS L xs (x3 + 1)).bind fun v111 => (ldS L xs (x3 + 2)).bind fun v112 => (ldS L xs (x3 + 3)).bind fun v113 => (cob h 10 1).bind fun _ => (fX11_pair 1 v111 v112 v113 h).bind fun p115 => (ldS L xs (x3 + 1)).bind fun v116 => (ldS L xs (x3 + 2)).bind fun v117 => (ldS L xs (x3 + 3)).bind fun v118 => (cob p115.2 11 62).bind fun _ => (fX12_pair 62 v116 v117 v118 p115.2).bind fun p120 => if p115.1 = p120.1 then (fL_law_1223 L xs K 1000000 1 62 x3 p120.2) else (fL_law_589 L xs p120.2)) = K 1000000 1 62 (x3 + 5) h' := by
  obtain ⟨r, a, b, e1, e2, B2⟩ := both_pair B ((xs (x3 + 1).toNat).toInt) ((xs (x3 + 2).toNat).toInt) ((xs (x3 + 3).toNat).toInt)
  obtain ⟨flt, o⟩ := B.hd
  have l80 := B.le
  have cb : cob a 11 62 = some () := cob_put (by have z := e2; unfold fX12_pair at z; exact z)
  refine ⟨b, B2, ?_⟩
  rw [ldS_n (i := x3 + 1) (by omega) (by omega), ob, ldS_n (i := x3 + 2) (by omega) (by omega), ob, ldS_n (i := x3 + 3) (by omega) (by omega), ob, co o, ob, e1, ob, ob, ob, ob, cb, ob, e2, ob]
  show (if r = r then fL_law_1223 L xs K 1000000 1 62 x3 b else _) = _
  rw [if_pos rfl, fL_law_1223, c32_n (by omega) (by omega), ob]
theorem lc_cost (B : Both h) (K : Nat → Nat → Nat → Int → Hp → Option (Int × Hp)) {x3 : Int} (h0 : 0 ≤ x3) (h1 : x3 + 5 ≤ L) (h2 : L ≤ 2560) : ∃ h', Both h' ∧ ((ldS L xs (x3 + 1)).bind fun v123 => (cob h 10 1).bind fun _ => (fX11_cost 1 v123 h).bind fun p125 => (ldS L xs (x3 + 1)).bind fun v126 => (cob p125.2 11 62).bind fun _ => (fX12_cost 62 v126 p125.2).bind fun p128 => if (lCmp p125.1 p128.1) = 0 then (fL_law_1223 L xs K 1000000 1 62 x3 p128.2) else (fL_law_613 L xs p128.2)) = K 1000000 1 62 (x3 + 5) h' := by
  obtain ⟨r, a, b, e1, e2, B2⟩ := both_cost B ((xs (x3 + 1).toNat).toInt)
  obtain ⟨flt, o⟩ := B.hd
  have l80 := B.le
  have cb : cob a 11 62 = some () := cob_put (by have z := e2; unfold fX12_cost at z; exact z)
  refine ⟨b, B2, ?_⟩
  rw [ldS_n (i := x3 + 1) (by omega) (by omega), ob, co o, ob, e1, ob, ob, cb, ob, e2, ob]
  show (if lCmp r r = 0 then fL_law_1223 L xs K 1000000 1 62 x3 b else _) = _
  rw [if_pos ((lCmp_eq r r).mpr rfl), fL_law_1223, c32_n (by omega) (by omega), ob]
theorem lc_middle (B : Both h) (K : Nat → Nat → Nat → Int → Hp → Option (Int × Hp)) {x3 : Int} (h0 : 0 ≤ x3) (h1 : x3 + 5 ≤ L) (h2 : L ≤ 2560) : ∃ h', Both h' ∧ ((ldS L xs (x3 + 1)).bind fun v131 => (cob h 10 1).bind fun _ => (fX11_middle 1 v131 h).bind fun p133 => (ldS L xs (x3 + 1)).bind fun v134 => (cob p133.2 11 62).bind fun _ => (fX12_middle 62 v134 p133.2).bind fun p136 => if p133.1 = p136.1 then (fL_law_1223 L xs K 1000000 1 62 x3 p136.2) else (fL_law_636 L xs p136.2)) = K 1000000 1 62 (x3 + 5) h' := by
  obtain ⟨r, a, b, e1, e2, B2⟩ := both_middle B ((xs (x3 + 1).toNat).toInt)
  obtain ⟨flt, o⟩ := B.hd
  have l80 := B.le
  have cb : cob a 11 62 = some () := cob_put (by have z := e2; unfold fX12_middle at z; exact z)
  refine ⟨b, B2, ?_⟩
  rw [ldS_n (i := x3 + 1) (by omega) (by omega), ob, co o, ob, e1, ob, ob, cb, ob, e2, ob]
  show (if r = r then fL_law_1223 L xs K 1000000 1 62 x3 b else _) = _
  rw [if_pos rfl, fL_law_1223, c32_n (by omega) (by omega), ob]
theorem lc_best (B : Both h) (K : Nat → Nat → Nat → Int → Hp → Option (Int × Hp)) {x3 : Int} (h0 : 0 ≤ x3) (h1 : x3 + 5 ≤ L) (h2 : L ≤ 2560) : ∃ h', Both h' ∧ ((ldS L xs (x3 + 1)).bind fun v139 => (ldS L xs (x3 + 2)).bind fun v140 => (cob h 10 1).bind fun _ => (crf h 1000000).bind fun _ => (crf h 1).bind fun _ => (crf h 62).bind fun _ => (fX11_best 1 v139 v140 h).bind fun p145 => (ldS L xs (x3 + 1)).bind fun v146 => (ldS L xs (x3 + 2)).bind fun v147 => (cob p145.2 11 62).bind fun _ => (fX12_best 62 v146 v147 p145.2).bind fun p149 => if (lCmp p145.1 p149.1) = 0 then (fL_law_1223 L xs K 1000000 1 62 x3 p149.2) else (fL_law_670 L xs p149.2)) = K 1000000 1 62 (x3 + 5) h' := by
  obtain ⟨r, a, b, e1, e2, B2⟩ := both_best B ((xs (x3 + 1).toNat).toInt) ((xs (x3 + 2).toNat).toInt)
  obtain ⟨flt, o⟩ := B.hd
  have l80 := B.le
  have cb : cob a 11 62 = some () := cob_put (by have z := e2; unfold fX12_best at z; exact z)
  refine ⟨b, B2, ?_⟩
  rw [ldS_n (i := x3 + 1) (by omega) (by omega), ob, ldS_n (i := x3 + 2) (by omega) (by omega), ob, co o, ob, crf_big, ob, cr (q := 1) (by omega), ob, cr (q := 62) (by omega), ob, e1, ob, ob, ob, cb, ob, e2, ob]
  show (if lCmp r r = 0 then fL_law_1223 L xs K 1000000 1 62 x3 b else _) = _
  rw [if_pos ((lCmp_eq r r).mpr rfl), fL_law_1223, c32_n (by omega) (by omega), ob]
theorem lc_line (B : Both h) (K : Nat → Nat → Nat → Int → Hp → Option (Int × Hp)) {x3 : Int} (h0 : 0 ≤ x3) (h1 : x3 + 5 ≤ L) (h2 : L ≤ 2560) : ∃ h', Both h' ∧ ((ldS L xs (x3 + 1)).bind fun v152 => (ldS L xs (x3 + 2)).bind fun v153 => (cob h 10 1).bind fun _ => (crf h 1000000).bind fun _ => (crf h 1).bind fun _ => (crf h 62).bind fun _ => (fX11_line 1 v152 v153 h).bind fun p158 => (ldS L xs (x3 + 1)).bind fun v159 => (ldS L xs (x3 + 2)).bind fun v160 => (cob p158.2 11 62).bind fun _ => (fX12_line 62 v159 v160 p158.2).bind fun p162 => if (lCmp p158.1 p162.1) = 0 then (fL_law_1223 L xs K 1000000 1 62 x3 p162.2) else (fL_law_704 L xs p162.2)) = K 1000000 1 62 (x3 + 5) h' := by
  obtain ⟨r, a, b, e1, e2, B2⟩ := both_line B ((xs (x3 + 1).toNat).toInt) ((xs (x3 + 2).toNat).toInt)
  obtain ⟨flt, o⟩ := B.hd
  have l80 := B.le
  have cb : cob a 11 62 = some () := cob_put (by have z := e2; unfold fX12_line at z; exact z)
  refine ⟨b, B2, ?_⟩
  rw [ldS_n (i := x3 + 1) (by omega) (by omega), ob, ldS_n (i := x3 + 2) (by omega) (by omega), ob, co o, ob, crf_big, ob, cr (q := 1) (by omega), ob, cr (q := 62) (by omega), ob, e1, ob, ob, ob, cb, ob, e2, ob]
  show (if lCmp r r = 0 then fL_law_1223 L xs K 1000000 1 62 x3 b else _) = _
  rw [if_pos ((lCmp_eq r r).mpr rfl), fL_law_1223, c32_n (by omega) (by omega), ob]
theorem lc_better (B : Both h) (K : Nat → Nat → Nat → Int → Hp → Option (Int × Hp)) {x3 : Int} (h0 : 0 ≤ x3) (h1 : x3 + 5 ≤ L) (h2 : L ≤ 2560) : ∃ h', Both h' ∧ ((ldS L xs (x3 + 1)).bind fun v165 => (cob h 10 1).bind fun _ => (crf h 1000000).bind fun _ => (crf h 1).bind fun _ => (crf h 62).bind fun _ => (fX11_better 1 v165 h).bind fun p170 => (ldS L xs (x3 + 1)).bind fun v171 => (cob p170.2 11 62).bind fun _ => (fX12_better 62 v171 p170.2).bind fun p173 => if p170.1 = p173.1 then (fL_law_1223 L xs K 1000000 1 62 x3 p173.2) else (fL_law_727 L xs p173.2)) = K 1000000 1 62 (x3 + 5) h' := by
  obtain ⟨r, a, b, e1, e2, B2⟩ := both_better B ((xs (x3 + 1).toNat).toInt)
  obtain ⟨flt, o⟩ := B.hd
  have l80 := B.le
  have cb : cob a 11 62 = some () := cob_put (by have z := e2; unfold fX12_better at z; exact z)
  refine ⟨b, B2, ?_⟩
  rw [ldS_n (i := x3 + 1) (by omega) (by omega), ob, co o, ob, crf_big, ob, cr (q := 1) (by omega), ob, cr (q := 62) (by omega), ob, e1, ob, ob, cb, ob, e2, ob]
  show (if r = r then fL_law_1223 L xs K 1000000 1 62 x3 b else _) = _
  rw [if_pos rfl, fL_law_1223, c32_n (by omega) (by omega), ob]
theorem lc_two (B : Both h) (K : Nat → Nat → Nat → Int → Hp → Option (Int × Hp)) {x3 : Int} (h0 : 0 ≤ x3) (h1 : x3 + 5 ≤ L) (h2 : L ≤ 2560) : ∃ h', Both h' ∧ ((cob h 10 1).bind fun _ => (crf h 1000000).bind fun _ => (crf h 1).bind fun _ => (crf h 62).bind fun _ => (fX11_two 1 h).bind fun p180 => (cob p180.2 11 62).bind fun _ => (fX12_two 62 p180.2).bind fun p182 => if p180.1 = p182.1 then (fL_law_1223 L xs K 1000000 1 62 x3 p182.2) else (fL_law_740 L xs p182.2)) = K 1000000 1 62 (x3 + 5) h' := by
  obtain ⟨r, a, b, e1, e2, B2⟩ := both_two B 
  obtain ⟨flt, o⟩ := B.hd
  have l80 := B.le
  have cb : cob a 11 62 = some () := cob_put (by have z := e2; unfold fX12_two at z; exact z)
  refine ⟨b, B2, ?_⟩
  rw [co o, ob, crf_big, ob, cr (q := 1) (by omega), ob, cr (q := 62) (by omega), ob, e1, ob, cb, ob, e2, ob]
  show (if r = r then fL_law_1223 L xs K 1000000 1 62 x3 b else _) = _
  rw [if_pos rfl, fL_law_1223, c32_n (by omega) (by omega), ob]
theorem lc_centres (B : Both h) (K : Nat → Nat → Nat → Int → Hp → Option (Int × Hp)) {x3 : Int} (h0 : 0 ≤ x3) (h1 : x3 + 5 ≤ L) (h2 : L ≤ 2560) : ∃ h', Both h' ∧ ((ldS L xs (x3 + 1)).bind fun v185 => (cob h 10 1).bind fun _ => (crf h 1000000).bind fun _ => (crf h 1).bind fun _ => (crf h 62).bind fun _ => (fX11_centres 1 v185 h).bind fun p190 => (ldS L xs (x3 + 1)).bind fun v191 => (cob p190.2 11 62).bind fun _ => (fX12_centres 62 v191 p190.2).bind fun p193 => if p190.1 = p193.1 then (fL_law_1223 L xs K 1000000 1 62 x3 p193.2) else (fL_law_763 L xs p193.2)) = K 1000000 1 62 (x3 + 5) h' := by
  obtain ⟨r, a, b, e1, e2, B2⟩ := both_centres B ((xs (x3 + 1).toNat).toInt)
  obtain ⟨flt, o⟩ := B.hd
  have l80 := B.le
  have cb : cob a 11 62 = some () := cob_put (by have z := e2; unfold fX12_centres at z; exact z)
  refine ⟨b, B2, ?_⟩
  rw [ldS_n (i := x3 + 1) (by omega) (by omega), ob, co o, ob, crf_big, ob, cr (q := 1) (by omega), ob, cr (q := 62) (by omega), ob, e1, ob, ob, cb, ob, e2, ob]
  show (if r = r then fL_law_1223 L xs K 1000000 1 62 x3 b else _) = _
  rw [if_pos rfl, fL_law_1223, c32_n (by omega) (by omega), ob]
theorem lc_third (B : Both h) (K : Nat → Nat → Nat → Int → Hp → Option (Int × Hp)) {x3 : Int} (h0 : 0 ≤ x3) (h1 : x3 + 5 ≤ L) (h2 : L ≤ 2560) : ∃ h', Both h' ∧ ((ldS L xs (x3 + 1)).bind fun v196 => (cob h 10 1).bind fun _ => (crf h 1000000).bind fun _ => (crf h 1).bind fun _ => (crf h 62).bind fun _ => (fX11_third 1 v196 h).bind fun p201 => (ldS L xs (x3 + 1)).bind fun v202 => (cob p201.2 11 62).bind fun _ => (fX12_third 62 v202 p201.2).bind fun p204 => if (lCmp p201.1 p204.1) = 0 then (fL_law_1223 L xs K 1000000 1 62 x3 p204.2) else (fL_law_787 L xs p204.2)) = K 1000000 1 62 (x3 + 5) h' := by
  obtain ⟨r, a, b, e1, e2, B2⟩ := both_third B ((xs (x3 + 1).toNat).toInt)
  obtain ⟨flt, o⟩ := B.hd
  have l80 := B.le
  have cb : cob a 11 62 = some () := cob_put (by have z := e2; unfold fX12_third at z; exact z)
  refine ⟨b, B2, ?_⟩
  rw [ldS_n (i := x3 + 1) (by omega) (by omega), ob, co o, ob, crf_big, ob, cr (q := 1) (by omega), ob, cr (q := 62) (by omega), ob, e1, ob, ob, cb, ob, e2, ob]
  show (if lCmp r r = 0 then fL_law_1223 L xs K 1000000 1 62 x3 b else _) = _
  rw [if_pos ((lCmp_eq r r).mpr rfl), fL_law_1223, c32_n (by omega) (by omega), ob]
theorem lc_thirds (B : Both h) (K : Nat → Nat → Nat → Int → Hp → Option (Int × Hp)) {x3 : Int} (h0 : 0 ≤ x3) (h1 : x3 + 5 ≤ L) (h2 : L ≤ 2560) : ∃ h', Both h' ∧ ((cob h 10 1).bind fun _ => (fX11_thirds 1 h).bind fun p208 => (cob p208.2 11 62).bind fun _ => (fX12_thirds 62 p208.2).bind fun p210 => if (lCmp p208.1 p210.1) = 0 then (fL_law_1223 L xs K 1000000 1 62 x3 p210.2) else (fL_law_801 L xs p210.2)) = K 1000000 1 62 (x3 + 5) h' := by
  obtain ⟨r, a, b, e1, e2, B2⟩ := both_thirds B 
  obtain ⟨flt, o⟩ := B.hd
  have l80 := B.le
  have cb : cob a 11 62 = some () := cob_put (by have z := e2; unfold fX12_thirds at z; exact z)
  refine ⟨b, B2, ?_⟩
  rw [co o, ob, e1, ob, cb, ob, e2, ob]
  show (if lCmp r r = 0 then fL_law_1223 L xs K 1000000 1 62 x3 b else _) = _
  rw [if_pos ((lCmp_eq r r).mpr rfl), fL_law_1223, c32_n (by omega) (by omega), ob]
theorem lc_rounds (B : Both h) (K : Nat → Nat → Nat → Int → Hp → Option (Int × Hp)) {x3 : Int} (h0 : 0 ≤ x3) (h1 : x3 + 5 ≤ L) (h2 : L ≤ 2560) : ∃ h', Both h' ∧ ((cob h 10 1).bind fun _ => (fX11_rounds 1 h).bind fun p214 => (cob p214.2 11 62).bind fun _ => (fX12_rounds 62 p214.2).bind fun p216 => if p214.1 = p216.1 then (fL_law_1223 L xs K 1000000 1 62 x3 p216.2) else (fL_law_814 L xs p216.2)) = K 1000000 1 62 (x3 + 5) h' := by
  obtain ⟨r, a, b, e1, e2, B2⟩ := both_rounds B 
  obtain ⟨flt, o⟩ := B.hd
  have l80 := B.le
  have cb : cob a 11 62 = some () := cob_put (by have z := e2; unfold fX12_rounds at z; exact z)
  refine ⟨b, B2, ?_⟩
  rw [co o, ob, e1, ob, cb, ob, e2, ob]
  show (if r = r then fL_law_1223 L xs K 1000000 1 62 x3 b else _) = _
  rw [if_pos rfl, fL_law_1223, c32_n (by omega) (by omega), ob]
theorem lc_tree (B : Both h) (K : Nat → Nat → Nat → Int → Hp → Option (Int × Hp)) {x3 : Int} (h0 : 0 ≤ x3) (h1 : x3 + 5 ≤ L) (h2 : L ≤ 2560) : ∃ h', Both h' ∧ ((ldS L xs (x3 + 1)).bind fun v219 => (cob h 10 1).bind fun _ => (fX11_tree 1 v219 h).bind fun p221 => (ldS L xs (x3 + 1)).bind fun v222 => (cob p221.2 11 62).bind fun _ => (fX12_tree 62 v222 p221.2).bind fun p224 => if p221.1 = p224.1 then (fL_law_1223 L xs K 1000000 1 62 x3 p224.2) else (fL_law_837 L xs p224.2)) = K 1000000 1 62 (x3 + 5) h' := by
  obtain ⟨r, a, b, e1, e2, B2⟩ := both_tree B ((xs (x3 + 1).toNat).toInt)
  obtain ⟨flt, o⟩ := B.hd
  have l80 := B.le
  have cb : cob a 11 62 = some () := cob_put (by have z := e2; unfold fX12_tree at z; exact z)
  refine ⟨b, B2, ?_⟩
  rw [ldS_n (i := x3 + 1) (by omega) (by omega), ob, co o, ob, e1, ob, ob, cb, ob, e2, ob]
  show (if r = r then fL_law_1223 L xs K 1000000 1 62 x3 b else _) = _
  rw [if_pos rfl, fL_law_1223, c32_n (by omega) (by omega), ob]
theorem lc_joined (B : Both h) (K : Nat → Nat → Nat → Int → Hp → Option (Int × Hp)) {x3 : Int} (h0 : 0 ≤ x3) (h1 : x3 + 5 ≤ L) (h2 : L ≤ 2560) : ∃ h', Both h' ∧ ((ldS L xs (x3 + 1)).bind fun v227 => (ldS L xs (x3 + 2)).bind fun v228 => (cob h 10 1).bind fun _ => (fX11_joined 1 v227 v228 h).bind fun p230 => (ldS L xs (x3 + 1)).bind fun v231 => (ldS L xs (x3 + 2)).bind fun v232 => (cob p230.2 11 62).bind fun _ => (fX12_joined 62 v231 v232 p230.2).bind fun p234 => if p230.1 = p234.1 then (fL_law_1223 L xs K 1000000 1 62 x3 p234.2) else (fL_law_870 L xs p234.2)) = K 1000000 1 62 (x3 + 5) h' := by
  obtain ⟨r, a, b, e1, e2, B2⟩ := both_joined B ((xs (x3 + 1).toNat).toInt) ((xs (x3 + 2).toNat).toInt)
  obtain ⟨flt, o⟩ := B.hd
  have l80 := B.le
  have cb : cob a 11 62 = some () := cob_put (by have z := e2; unfold fX12_joined at z; exact z)
  refine ⟨b, B2, ?_⟩
  rw [ldS_n (i := x3 + 1) (by omega) (by omega), ob, ldS_n (i := x3 + 2) (by omega) (by omega), ob, co o, ob, e1, ob, ob, ob, cb, ob, e2, ob]
  show (if r = r then fL_law_1223 L xs K 1000000 1 62 x3 b else _) = _
  rw [if_pos rfl, fL_law_1223, c32_n (by omega) (by omega), ob]
theorem lc_height (B : Both h) (K : Nat → Nat → Nat → Int → Hp → Option (Int × Hp)) {x3 : Int} (h0 : 0 ≤ x3) (h1 : x3 + 5 ≤ L) (h2 : L ≤ 2560) : ∃ h', Both h' ∧ ((ldS L xs (x3 + 1)).bind fun v237 => (ldS L xs (x3 + 2)).bind fun v238 => (cob h 10 1).bind fun _ => (fX11_height 1 v237 v238 h).bind fun p240 => (ldS L xs (x3 + 1)).bind fun v241 => (ldS L xs (x3 + 2)).bind fun v242 => (cob p240.2 11 62).bind fun _ => (fX12_height 62 v241 v242 p240.2).bind fun p244 => if p240.1 = p244.1 then (fL_law_1223 L xs K 1000000 1 62 x3 p244.2) else (fL_law_903 L xs p244.2)) = K 1000000 1 62 (x3 + 5) h' := by
  obtain ⟨r, a, b, e1, e2, B2⟩ := both_height B ((xs (x3 + 1).toNat).toInt) ((xs (x3 + 2).toNat).toInt)
  obtain ⟨flt, o⟩ := B.hd
  have l80 := B.le
  have cb : cob a 11 62 = some () := cob_put (by have z := e2; unfold fX12_height at z; exact z)
  refine ⟨b, B2, ?_⟩
  rw [ldS_n (i := x3 + 1) (by omega) (by omega), ob, ldS_n (i := x3 + 2) (by omega) (by omega), ob, co o, ob, e1, ob, ob, ob, cb, ob, e2, ob]
  show (if r = r then fL_law_1223 L xs K 1000000 1 62 x3 b else _) = _
  rw [if_pos rfl, fL_law_1223, c32_n (by omega) (by omega), ob]
theorem lc_cut (B : Both h) (K : Nat → Nat → Nat → Int → Hp → Option (Int × Hp)) {x3 : Int} (h0 : 0 ≤ x3) (h1 : x3 + 5 ≤ L) (h2 : L ≤ 2560) : ∃ h', Both h' ∧ ((ldS L xs (x3 + 1)).bind fun v247 => (cob h 10 1).bind fun _ => (crf h 1000000).bind fun _ => (crf h 1).bind fun _ => (crf h 62).bind fun _ => (fX11_cut 1 v247 h).bind fun p252 => (ldS L xs (x3 + 1)).bind fun v253 => (cob p252.2 11 62).bind fun _ => (fX12_cut 62 v253 p252.2).bind fun p255 => if p252.1 = p255.1 then (fL_law_1223 L xs K 1000000 1 62 x3 p255.2) else (fL_law_926 L xs p255.2)) = K 1000000 1 62 (x3 + 5) h' := by
  obtain ⟨r, a, b, e1, e2, B2⟩ := both_cut B ((xs (x3 + 1).toNat).toInt)
  obtain ⟨flt, o⟩ := B.hd
  have l80 := B.le
  have cb : cob a 11 62 = some () := cob_put (by have z := e2; unfold fX12_cut at z; exact z)
  refine ⟨b, B2, ?_⟩
  rw [ldS_n (i := x3 + 1) (by omega) (by omega), ob, co o, ob, crf_big, ob, cr (q := 1) (by omega), ob, cr (q := 62) (by omega), ob, e1, ob, ob, cb, ob, e2, ob]
  show (if r = r then fL_law_1223 L xs K 1000000 1 62 x3 b else _) = _
  rw [if_pos rfl, fL_law_1223, c32_n (by omega) (by omega), ob]
theorem lc_many (B : Both h) (K : Nat → Nat → Nat → Int → Hp → Option (Int × Hp)) {x3 : Int} (h0 : 0 ≤ x3) (h1 : x3 + 5 ≤ L) (h2 : L ≤ 2560) : ∃ h', Both h' ∧ ((ldS L xs (x3 + 1)).bind fun v258 => (ldS L xs (x3 + 2)).bind fun v259 => (cob h 10 1).bind fun _ => (fX11_many 1 v258 v259 h).bind fun p261 => (ldS L xs (x3 + 1)).bind fun v262 => (ldS L xs (x3 + 2)).bind fun v263 => (cob p261.2 11 62).bind fun _ => (fX12_many 62 v262 v263 p261.2).bind fun p265 => if (lCmp p261.1 p265.1) = 0 then (fL_law_1223 L xs K 1000000 1 62 x3 p265.2) else (fL_law_960 L xs p265.2)) = K 1000000 1 62 (x3 + 5) h' := by
  obtain ⟨r, a, b, e1, e2, B2⟩ := both_many B ((xs (x3 + 1).toNat).toInt) ((xs (x3 + 2).toNat).toInt)
  obtain ⟨flt, o⟩ := B.hd
  have l80 := B.le
  have cb : cob a 11 62 = some () := cob_put (by have z := e2; unfold fX12_many at z; exact z)
  refine ⟨b, B2, ?_⟩
  rw [ldS_n (i := x3 + 1) (by omega) (by omega), ob, ldS_n (i := x3 + 2) (by omega) (by omega), ob, co o, ob, e1, ob, ob, ob, cb, ob, e2, ob]
  show (if lCmp r r = 0 then fL_law_1223 L xs K 1000000 1 62 x3 b else _) = _
  rw [if_pos ((lCmp_eq r r).mpr rfl), fL_law_1223, c32_n (by omega) (by omega), ob]
theorem lc_rank (B : Both h) (K : Nat → Nat → Nat → Int → Hp → Option (Int × Hp)) {x3 : Int} (h0 : 0 ≤ x3) (h1 : x3 + 5 ≤ L) (h2 : L ≤ 2560) : ∃ h', Both h' ∧ ((cob h 10 1).bind fun _ => (fX11_rank 1 h).bind fun p269 => (cob p269.2 11 62).bind fun _ => (fX12_rank 62 p269.2).bind fun p271 => if (lCmp p269.1 p271.1) = 0 then (fL_law_1223 L xs K 1000000 1 62 x3 p271.2) else (fL_law_974 L xs p271.2)) = K 1000000 1 62 (x3 + 5) h' := by
  obtain ⟨r, a, b, e1, e2, B2⟩ := both_rank B 
  obtain ⟨flt, o⟩ := B.hd
  have l80 := B.le
  have cb : cob a 11 62 = some () := cob_put (by have z := e2; unfold fX12_rank at z; exact z)
  refine ⟨b, B2, ?_⟩
  rw [co o, ob, e1, ob, cb, ob, e2, ob]
  show (if lCmp r r = 0 then fL_law_1223 L xs K 1000000 1 62 x3 b else _) = _
  rw [if_pos ((lCmp_eq r r).mpr rfl), fL_law_1223, c32_n (by omega) (by omega), ob]
theorem lc_of (B : Both h) (K : Nat → Nat → Nat → Int → Hp → Option (Int × Hp)) {x3 : Int} (h0 : 0 ≤ x3) (h1 : x3 + 5 ≤ L) (h2 : L ≤ 2560) : ∃ h', Both h' ∧ ((ldS L xs (x3 + 1)).bind fun v274 => (ldS L xs (x3 + 2)).bind fun v275 => (cob h 10 1).bind fun _ => (crf h 1000000).bind fun _ => (crf h 1).bind fun _ => (crf h 62).bind fun _ => (fX11_of 1 (lOr (lShl v274 32) (lAnd v275 4294967295)) h).bind fun p280 => (ldS L xs (x3 + 1)).bind fun v281 => (ldS L xs (x3 + 2)).bind fun v282 => (cob p280.2 11 62).bind fun _ => (fX12_of 62 (lOr (lShl v281 32) (lAnd v282 4294967295)) p280.2).bind fun p284 => if p280.1 = p284.1 then (fL_law_1223 L xs K 1000000 1 62 x3 p284.2) else (fL_law_1027 L xs p284.2)) = K 1000000 1 62 (x3 + 5) h' := by
  obtain ⟨r, a, b, e1, e2, B2⟩ := both_ofr B ((lOr (lShl (xs (x3 + 1).toNat).toInt 32) (lAnd (xs (x3 + 2).toNat).toInt 4294967295))) (lOr_bd _ _)
  obtain ⟨flt, o⟩ := B.hd
  have l80 := B.le
  have cb : cob a 11 62 = some () := cob_put (by have z := e2; unfold fX12_of at z; exact z)
  refine ⟨b, B2, ?_⟩
  rw [ldS_n (i := x3 + 1) (by omega) (by omega), ob, ldS_n (i := x3 + 2) (by omega) (by omega), ob, co o, ob, crf_big, ob, cr (q := 1) (by omega), ob, cr (q := 62) (by omega), ob, e1, ob, ob, ob, cb, ob, e2, ob]
  show (if r = r then fL_law_1223 L xs K 1000000 1 62 x3 b else _) = _
  rw [if_pos rfl, fL_law_1223, c32_n (by omega) (by omega), ob]
theorem lc_keep (B : Both h) (K : Nat → Nat → Nat → Int → Hp → Option (Int × Hp)) {x3 : Int} (h0 : 0 ≤ x3) (h1 : x3 + 5 ≤ L) (h2 : L ≤ 2560) : ∃ h', Both h' ∧ ((ldS L xs (x3 + 1)).bind fun v287 => (cob h 10 1).bind fun _ => (fX11_keep 1 v287 h).bind fun p289 => (ldS L xs (x3 + 1)).bind fun v290 => (cob p289.2 11 62).bind fun _ => (fX12_keep 62 v290 p289.2).bind fun p292 => if p289.1 = p292.1 then (fL_law_1223 L xs K 1000000 1 62 x3 p292.2) else (fL_law_1050 L xs p292.2)) = K 1000000 1 62 (x3 + 5) h' := by
  obtain ⟨r, a, b, e1, e2, B2⟩ := both_keep B ((xs (x3 + 1).toNat).toInt)
  obtain ⟨flt, o⟩ := B.hd
  have l80 := B.le
  have cb : cob a 11 62 = some () := cob_put (by have z := e2; unfold fX12_keep at z; exact z)
  refine ⟨b, B2, ?_⟩
  rw [ldS_n (i := x3 + 1) (by omega) (by omega), ob, co o, ob, e1, ob, ob, cb, ob, e2, ob]
  show (if r = r then fL_law_1223 L xs K 1000000 1 62 x3 b else _) = _
  rw [if_pos rfl, fL_law_1223, c32_n (by omega) (by omega), ob]
theorem lc_differ (B : Both h) (K : Nat → Nat → Nat → Int → Hp → Option (Int × Hp)) {x3 : Int} (h0 : 0 ≤ x3) (h1 : x3 + 5 ≤ L) (h2 : L ≤ 2560) : ∃ h', Both h' ∧ ((ldS L xs (x3 + 1)).bind fun v295 => (cob h 10 1).bind fun _ => (fX11_differ 1 v295 h).bind fun p297 => (ldS L xs (x3 + 1)).bind fun v298 => (cob p297.2 11 62).bind fun _ => (fX12_differ 62 v298 p297.2).bind fun p300 => if p297.1 = p300.1 then (fL_law_1223 L xs K 1000000 1 62 x3 p300.2) else (fL_law_1073 L xs p300.2)) = K 1000000 1 62 (x3 + 5) h' := by
  obtain ⟨r, a, b, e1, e2, B2⟩ := both_differ B ((xs (x3 + 1).toNat).toInt)
  obtain ⟨flt, o⟩ := B.hd
  have l80 := B.le
  have cb : cob a 11 62 = some () := cob_put (by have z := e2; unfold fX12_differ at z; exact z)
  refine ⟨b, B2, ?_⟩
  rw [ldS_n (i := x3 + 1) (by omega) (by omega), ob, co o, ob, e1, ob, ob, cb, ob, e2, ob]
  show (if r = r then fL_law_1223 L xs K 1000000 1 62 x3 b else _) = _
  rw [if_pos rfl, fL_law_1223, c32_n (by omega) (by omega), ob]
theorem lc_both (B : Both h) (K : Nat → Nat → Nat → Int → Hp → Option (Int × Hp)) {x3 : Int} (h0 : 0 ≤ x3) (h1 : x3 + 5 ≤ L) (h2 : L ≤ 2560) : ∃ h', Both h' ∧ ((ldS L xs (x3 + 1)).bind fun v303 => (cob h 10 1).bind fun _ => (crf h 1000000).bind fun _ => (crf h 1).bind fun _ => (crf h 62).bind fun _ => (fX11_both 1 v303 h).bind fun p308 => (ldS L xs (x3 + 1)).bind fun v309 => (cob p308.2 11 62).bind fun _ => (fX12_both 62 v309 p308.2).bind fun p311 => if p308.1 = p311.1 then (fL_law_1223 L xs K 1000000 1 62 x3 p311.2) else (fL_law_1096 L xs p311.2)) = K 1000000 1 62 (x3 + 5) h' := by
  obtain ⟨r, a, b, e1, e2, B2⟩ := both_both B ((xs (x3 + 1).toNat).toInt)
  obtain ⟨flt, o⟩ := B.hd
  have l80 := B.le
  have cb : cob a 11 62 = some () := cob_put (by have z := e2; unfold fX12_both at z; exact z)
  refine ⟨b, B2, ?_⟩
  rw [ldS_n (i := x3 + 1) (by omega) (by omega), ob, co o, ob, crf_big, ob, cr (q := 1) (by omega), ob, cr (q := 62) (by omega), ob, e1, ob, ob, cb, ob, e2, ob]
  show (if r = r then fL_law_1223 L xs K 1000000 1 62 x3 b else _) = _
  rw [if_pos rfl, fL_law_1223, c32_n (by omega) (by omega), ob]
theorem lc_tell (B : Both h) (K : Nat → Nat → Nat → Int → Hp → Option (Int × Hp)) {x3 : Int} (h0 : 0 ≤ x3) (h1 : x3 + 5 ≤ L) (h2 : L ≤ 2560) : ∃ h', Both h' ∧ ((ldS L xs (x3 + 1)).bind fun v314 => (cob h 10 1).bind fun _ => (fX11_tell 1 v314 h).bind fun p316 => (ldS L xs (x3 + 1)).bind fun v317 => (cob p316.2 11 62).bind fun _ => (fX12_tell 62 v317 p316.2).bind fun p319 => if p316.1 = p319.1 then (fL_law_1223 L xs K 1000000 1 62 x3 p319.2) else (fL_law_1119 L xs p319.2)) = K 1000000 1 62 (x3 + 5) h' := by
  obtain ⟨r, a, b, e1, e2, B2⟩ := both_tell B ((xs (x3 + 1).toNat).toInt)
  obtain ⟨flt, o⟩ := B.hd
  have l80 := B.le
  have cb : cob a 11 62 = some () := cob_put (by have z := e2; unfold fX12_tell at z; exact z)
  refine ⟨b, B2, ?_⟩
  rw [ldS_n (i := x3 + 1) (by omega) (by omega), ob, co o, ob, e1, ob, ob, cb, ob, e2, ob]
  show (if r = r then fL_law_1223 L xs K 1000000 1 62 x3 b else _) = _
  rw [if_pos rfl, fL_law_1223, c32_n (by omega) (by omega), ob]
theorem lc_check (B : Both h) (K : Nat → Nat → Nat → Int → Hp → Option (Int × Hp)) {x3 : Int} (h0 : 0 ≤ x3) (h1 : x3 + 5 ≤ L) (h2 : L ≤ 2560) : ∃ h', Both h' ∧ ((ldS L xs (x3 + 1)).bind fun v322 => (ldS L xs (x3 + 2)).bind fun v323 => (ldS L xs (x3 + 3)).bind fun v324 => (cob h 10 1).bind fun _ => (fX11_check 1 v322 (lOr (lShl v323 32) (lAnd v324 4294967295)) h).bind fun p326 => (ldS L xs (x3 + 1)).bind fun v327 => (ldS L xs (x3 + 2)).bind fun v328 => (ldS L xs (x3 + 3)).bind fun v329 => (cob p326.2 11 62).bind fun _ => (fX12_check 62 v327 (lOr (lShl v328 32) (lAnd v329 4294967295)) p326.2).bind fun p331 => if p326.1 = p331.1 then (fL_law_1223 L xs K 1000000 1 62 x3 p331.2) else (fL_law_1182 L xs p331.2)) = K 1000000 1 62 (x3 + 5) h' := by
  obtain ⟨r, a, b, e1, e2, B2⟩ := both_check B ((xs (x3 + 1).toNat).toInt) ((lOr (lShl (xs (x3 + 2).toNat).toInt 32) (lAnd (xs (x3 + 3).toNat).toInt 4294967295)))
  obtain ⟨flt, o⟩ := B.hd
  have l80 := B.le
  have cb : cob a 11 62 = some () := cob_put (by have z := e2; unfold fX12_check at z; exact z)
  refine ⟨b, B2, ?_⟩
  rw [ldS_n (i := x3 + 1) (by omega) (by omega), ob, ldS_n (i := x3 + 2) (by omega) (by omega), ob, ldS_n (i := x3 + 3) (by omega) (by omega), ob, co o, ob, e1, ob, ob, ob, ob, cb, ob, e2, ob]
  show (if r = r then fL_law_1223 L xs K 1000000 1 62 x3 b else _) = _
  rw [if_pos rfl, fL_law_1223, c32_n (by omega) (by omega), ob]
theorem lc_load (B : Both h) (K : Nat → Nat → Nat → Int → Hp → Option (Int × Hp)) {x3 : Int} (h0 : 0 ≤ x3) (h1 : x3 + 5 ≤ L) (h2 : L ≤ 2560) : ∃ h', Both h' ∧ ((cob h 10 1).bind fun _ => (crf h 1000000).bind fun _ => (crf h 1).bind fun _ => (crf h 62).bind fun _ => (fX11_load 1 h).bind fun p338 => (cob p338.2 11 62).bind fun _ => (fX12_load 62 p338.2).bind fun p340 => if p338.1 = p340.1 then (fL_law_1223 L xs K 1000000 1 62 x3 p340.2) else (fL_law_1195 L xs p340.2)) = K 1000000 1 62 (x3 + 5) h' := by
  obtain ⟨r, a, b, e1, e2, B2⟩ := both_load B 
  obtain ⟨flt, o⟩ := B.hd
  have l80 := B.le
  have cb : cob a 11 62 = some () := cob_put (by have z := e2; unfold fX12_load at z; exact z)
  refine ⟨b, B2, ?_⟩
  rw [co o, ob, crf_big, ob, cr (q := 1) (by omega), ob, cr (q := 62) (by omega), ob, e1, ob, cb, ob, e2, ob]
  show (if r = r then fL_law_1223 L xs K 1000000 1 62 x3 b else _) = _
  rw [if_pos rfl, fL_law_1223, c32_n (by omega) (by omega), ob]
theorem lc_undo (B : Both h) (K : Nat → Nat → Nat → Int → Hp → Option (Int × Hp)) {x3 : Int} (h0 : 0 ≤ x3) (h1 : x3 + 5 ≤ L) (h2 : L ≤ 2560) : ∃ h', Both h' ∧ ((cob h 10 1).bind fun _ => (fX11_undo 1 h).bind fun p344 => (cob p344.2 11 62).bind fun _ => (fX12_undo 62 p344.2).bind fun p346 => if p344.1 = p346.1 then (fL_law_1223 L xs K 1000000 1 62 x3 p346.2) else (fL_law_1208 L xs p346.2)) = K 1000000 1 62 (x3 + 5) h' := by
  obtain ⟨r, a, b, e1, e2, B2⟩ := both_undo B 
  obtain ⟨flt, o⟩ := B.hd
  have l80 := B.le
  have cb : cob a 11 62 = some () := cob_put (by have z := e2; unfold fX12_undo at z; exact z)
  refine ⟨b, B2, ?_⟩
  rw [co o, ob, e1, ob, cb, ob, e2, ob]
  show (if r = r then fL_law_1223 L xs K 1000000 1 62 x3 b else _) = _
  rw [if_pos rfl, fL_law_1223, c32_n (by omega) (by omega), ob]
theorem lc_fault (B : Both h) (K : Nat → Nat → Nat → Int → Hp → Option (Int × Hp)) {x3 : Int} (h0 : 0 ≤ x3) (h1 : x3 + 5 ≤ L) (h2 : L ≤ 2560) : ∃ h', Both h' ∧ ((cob h 10 1).bind fun _ => (fX11_fault 1 h).bind fun p350 => (cob p350.2 11 62).bind fun _ => (fX12_fault 62 p350.2).bind fun p352 => if p350.1 = p352.1 then (fL_law_1223 L xs K 1000000 1 62 x3 p352.2) else (fL_law_1221 L xs p352.2)) = K 1000000 1 62 (x3 + 5) h' := by
  obtain ⟨r, a, b, e1, e2, B2⟩ := both_fault B 
  obtain ⟨flt, o⟩ := B.hd
  have l80 := B.le
  have cb : cob a 11 62 = some () := cob_get (by have z := e2; unfold fX12_fault at z; exact z)
  refine ⟨b, B2, ?_⟩
  rw [co o, ob, e1, ob, cb, ob, e2, ob]
  show (if r = r then fL_law_1223 L xs K 1000000 1 62 x3 b else _) = _
  rw [if_pos rfl, fL_law_1223, c32_n (by omega) (by omega), ob]
theorem lc_quarrel (B : Both h) (K : Nat → Nat → Nat → Int → Hp → Option (Int × Hp)) {x3 : Int} (h0 : 0 ≤ x3) (h1 : x3 + 5 ≤ L) (h2 : L ≤ 2560) : ∃ h', Both h' ∧ ((ldS L xs (x3 + 1)).bind fun v76 => (ldS L xs (x3 + 2)).bind fun v77 => (ldS L xs (x3 + 3)).bind fun v78 => (ldS L xs (x3 + 4)).bind fun v79 => if v79 = 0 then (fL_law_429 L xs K 1000000 1 62 x3 0 v78 v77 v76 1 h) else (fL_law_429 L xs K 1000000 1 62 x3 1 v78 v77 v76 1 h)) = K 1000000 1 62 (x3 + 5) h' := by
  obtain ⟨flt, o⟩ := B.hd
  have l80 := B.le
  have key : ∀ u : Int, u = 0 ∨ u = 1 → (u = 0 ↔ (xs (x3 + 4).toNat).toInt = 0) → ∃ h', Both h' ∧ fL_law_429 L xs K 1000000 1 62 x3 u (xs (x3 + 3).toNat).toInt (xs (x3 + 2).toNat).toInt (xs (x3 + 1).toNat).toInt 1 h = K 1000000 1 62 (x3 + 5) h' := by
    intro u hu hz
    obtain ⟨r, a, b, e1, e2, B2⟩ := both_quarrel B (xs (x3 + 1).toNat).toInt (xs (x3 + 2).toNat).toInt (xs (x3 + 3).toNat).toInt u hu
    have cb : cob a 11 62 = some () := cob_put (by have z := e2; unfold fX12_quarrel at z; exact z)
    have fin : fL_law_461 L xs K 1000000 1 62 x3 u (xs (x3 + 3).toNat).toInt (xs (x3 + 2).toNat).toInt (xs (x3 + 1).toNat).toInt 62 r a = K 1000000 1 62 (x3 + 5) b := by
      rw [fL_law_461, cb, ob, e2, ob]
      show (if r = r then fL_law_1223 L xs K 1000000 1 62 x3 b else _) = _
      rw [if_pos rfl, fL_law_1223, c32_n (by omega) (by omega), ob]
    refine ⟨b, B2, ?_⟩
    rw [fL_law_429, co o, ob, crf_big, ob, cr (q := 1) (by omega), ob, cr (q := 62) (by omega), ob, e1, ob, ldS_n (i := x3 + 1) (by omega) (by omega), ob, ldS_n (i := x3 + 2) (by omega) (by omega), ob, ldS_n (i := x3 + 3) (by omega) (by omega), ob, ldS_n (i := x3 + 4) (by omega) (by omega), ob]
    rcases hu with w | w
    · rw [if_pos (hz.mp w)]
      subst w
      exact fin
    · rw [if_neg (fun y => by have := hz.mpr y; omega)]
      subst w
      exact fin
  rw [ldS_n (i := x3 + 1) (by omega) (by omega), ob, ldS_n (i := x3 + 2) (by omega) (by omega), ob, ldS_n (i := x3 + 3) (by omega) (by omega), ob, ldS_n (i := x3 + 4) (by omega) (by omega), ob]
  by_cases z : (xs (x3 + 4).toNat).toInt = 0
  · rw [if_pos z]
    exact key 0 (Or.inl rfl) ⟨fun _ => z, fun _ => rfl⟩
  · rw [if_neg z]
    exact key 1 (Or.inr rfl) ⟨fun w => absurd w (by decide), fun w => absurd w z⟩
theorem law_step (B : Both h) (N : Nat) {x3 : Int} (h0 : 0 ≤ x3) (h1 : x3 + 5 ≤ L) (h2 : L ≤ 2560) : ∃ h', Both h' ∧ fL_law_18 L xs (N + 1) 1000000 1 62 x3 h = fL_law_18 L xs N 1000000 1 62 (x3 + 5) h' := by
  rw [fL_law_18, c32_n (by omega) (by omega), ob, if_neg (by omega), ldS_n (i := x3) h0 (by omega), ob]
  generalize bAnd (xs x3.toNat).toInt 63 = z
  by_cases z0 : z = 0
  · rw [if_pos z0]
    exact lc_things B (fL_law_18 L xs N) h0 h1 h2
  rw [if_neg z0]
  by_cases z1 : z = 1
  · rw [if_pos z1]
    exact lc_way B (fL_law_18 L xs N) h0 h1 h2
  rw [if_neg z1]
  by_cases z2 : z = 2
  · rw [if_pos z2]
    exact lc_sheet B (fL_law_18 L xs N) h0 h1 h2
  rw [if_neg z2]
  by_cases z3 : z = 3
  · rw [if_pos z3]
    exact lc_entry B (fL_law_18 L xs N) h0 h1 h2
  rw [if_neg z3]
  by_cases z4 : z = 4
  · rw [if_pos z4]
    exact lc_lay B (fL_law_18 L xs N) h0 h1 h2
  rw [if_neg z4]
  by_cases z5 : z = 5
  · rw [if_pos z5]
    exact lc_measure B (fL_law_18 L xs N) h0 h1 h2
  rw [if_neg z5]
  by_cases z6 : z = 6
  · rw [if_pos z6]
    exact lc_quarrel B (fL_law_18 L xs N) h0 h1 h2
  rw [if_neg z6]
  by_cases z7 : z = 7
  · rw [if_pos z7]
    exact lc_put B (fL_law_18 L xs N) h0 h1 h2
  rw [if_neg z7]
  by_cases z8 : z = 8
  · rw [if_pos z8]
    exact lc_count B (fL_law_18 L xs N) h0 h1 h2
  rw [if_neg z8]
  by_cases z9 : z = 9
  · rw [if_pos z9]
    exact lc_heap B (fL_law_18 L xs N) h0 h1 h2
  rw [if_neg z9]
  by_cases z10 : z = 10
  · rw [if_pos z10]
    exact lc_pair B (fL_law_18 L xs N) h0 h1 h2
  rw [if_neg z10]
  by_cases z11 : z = 11
  · rw [if_pos z11]
    exact lc_cost B (fL_law_18 L xs N) h0 h1 h2
  rw [if_neg z11]
  by_cases z12 : z = 12
  · rw [if_pos z12]
    exact lc_middle B (fL_law_18 L xs N) h0 h1 h2
  rw [if_neg z12]
  by_cases z13 : z = 13
  · rw [if_pos z13]
    exact lc_best B (fL_law_18 L xs N) h0 h1 h2
  rw [if_neg z13]
  by_cases z14 : z = 14
  · rw [if_pos z14]
    exact lc_line B (fL_law_18 L xs N) h0 h1 h2
  rw [if_neg z14]
  by_cases z15 : z = 15
  · rw [if_pos z15]
    exact lc_better B (fL_law_18 L xs N) h0 h1 h2
  rw [if_neg z15]
  by_cases z16 : z = 16
  · rw [if_pos z16]
    exact lc_two B (fL_law_18 L xs N) h0 h1 h2
  rw [if_neg z16]
  by_cases z17 : z = 17
  · rw [if_pos z17]
    exact lc_centres B (fL_law_18 L xs N) h0 h1 h2
  rw [if_neg z17]
  by_cases z18 : z = 18
  · rw [if_pos z18]
    exact lc_third B (fL_law_18 L xs N) h0 h1 h2
  rw [if_neg z18]
  by_cases z19 : z = 19
  · rw [if_pos z19]
    exact lc_thirds B (fL_law_18 L xs N) h0 h1 h2
  rw [if_neg z19]
  by_cases z20 : z = 20
  · rw [if_pos z20]
    exact lc_rounds B (fL_law_18 L xs N) h0 h1 h2
  rw [if_neg z20]
  by_cases z21 : z = 21
  · rw [if_pos z21]
    exact lc_tree B (fL_law_18 L xs N) h0 h1 h2
  rw [if_neg z21]
  by_cases z22 : z = 22
  · rw [if_pos z22]
    exact lc_joined B (fL_law_18 L xs N) h0 h1 h2
  rw [if_neg z22]
  by_cases z23 : z = 23
  · rw [if_pos z23]
    exact lc_height B (fL_law_18 L xs N) h0 h1 h2
  rw [if_neg z23]
  by_cases z24 : z = 24
  · rw [if_pos z24]
    exact lc_cut B (fL_law_18 L xs N) h0 h1 h2
  rw [if_neg z24]
  by_cases z25 : z = 25
  · rw [if_pos z25]
    exact lc_many B (fL_law_18 L xs N) h0 h1 h2
  rw [if_neg z25]
  by_cases z26 : z = 26
  · rw [if_pos z26]
    exact lc_rank B (fL_law_18 L xs N) h0 h1 h2
  rw [if_neg z26]
  by_cases z27 : z = 27
  · rw [if_pos z27]
    exact lc_of B (fL_law_18 L xs N) h0 h1 h2
  rw [if_neg z27]
  by_cases z28 : z = 28
  · rw [if_pos z28]
    exact lc_keep B (fL_law_18 L xs N) h0 h1 h2
  rw [if_neg z28]
  by_cases z29 : z = 29
  · rw [if_pos z29]
    exact lc_differ B (fL_law_18 L xs N) h0 h1 h2
  rw [if_neg z29]
  by_cases z30 : z = 30
  · rw [if_pos z30]
    exact lc_both B (fL_law_18 L xs N) h0 h1 h2
  rw [if_neg z30]
  by_cases z31 : z = 31
  · rw [if_pos z31]
    exact lc_tell B (fL_law_18 L xs N) h0 h1 h2
  rw [if_neg z31]
  by_cases z32 : z = 32
  · rw [if_pos z32]
    exact lc_check B (fL_law_18 L xs N) h0 h1 h2
  rw [if_neg z32]
  by_cases z33 : z = 33
  · rw [if_pos z33]
    exact lc_load B (fL_law_18 L xs N) h0 h1 h2
  rw [if_neg z33]
  by_cases z34 : z = 34
  · rw [if_pos z34]
    exact lc_undo B (fL_law_18 L xs N) h0 h1 h2
  rw [if_neg z34]
  by_cases z35 : z = 35
  · rw [if_pos z35]
    exact lc_fault B (fL_law_18 L xs N) h0 h1 h2
  rw [if_neg z35]
  rw [fL_law_1223, c32_n (by omega) (by omega), ob]
  exact ⟨h, B, rfl⟩
end
theorem law_ok (L : Nat) (xs : Nat → Int32) (hL : L ≤ 2560) : ∃ h' : Hp, fL_law L xs (0, fun _ => none) = some (1, h') := by
  obtain ⟨h, e, B⟩ := law_start L xs
  rw [e]
  have key : ∃ h' : Hp, fL_law_18 L xs 513 1000000 1 62 ((5 * 0 : Nat) : Int) h = some (1, h') := by
    refine lp (fun N i (h : Hp) => fL_law_18 L xs N 1000000 1 62 ((5 * i : Nat) : Int) h) (fun _ h => Both h) (L / 5) (fun r => ∃ h' : Hp, r = some (1, h')) ?_ ?_ 513 0 h (Nat.zero_le _) (by omega) B
    · intro N i h hi hB
      obtain ⟨h', B', e'⟩ := law_step (L := L) (xs := xs) hB N (x3 := ((5 * i : Nat) : Int)) (by omega) (by omega) hL
      refine ⟨h', B', ?_⟩
      show fL_law_18 L xs (N + 1) 1000000 1 62 ((5 * i : Nat) : Int) h = fL_law_18 L xs N 1000000 1 62 ((5 * (i + 1) : Nat) : Int) h'
      rw [e']
      congr 1
    · intro N h hB
      show ∃ h' : Hp, fL_law_18 L xs (N + 1) 1000000 1 62 ((5 * (L / 5) : Nat) : Int) h = some (1, h')
      rw [fL_law_18, c32_n (by omega) (by omega), ob, if_pos (by omega), fL_law_1229]
      exact ⟨h, rfl⟩
  exact key
