section
variable {h : Hp} {s : Scn} {hist : List Scn} {x : Aux} {flt : Int}
/-- the reference counts a row's heaps -/
theorem r_heaps (R : RI h s hist x flt) (hn : sn s ≤ 12) {q m : Nat} {f : Nat → Int} (e : h.2 q = some (arr 0 m f)) (hm : sn s ≤ m) (hf : ∀ i, i < sn s → -1 ≤ f i ∧ f i ≤ 1000) : fX12_heaps 62 q h = some (mx f (sn s), h) := by
  unfold fX12_heaps
  refine lp (fun N i (c : Int) => fX12_heaps_4 N 62 q c i h) (fun i c => c = mx f i) (sn s) (fun o => o = some (mx f (sn s), h)) ?_ ?_ FU 0 0 (Nat.zero_le _) (FU_lt (by omega)) rfl
  · intro N i c hi hc
    have := hf i hi
    refine ⟨_, rfl, ?_⟩
    simp only [fX12_heaps_4]
    rw [R.cb, ob, r_n R, ob, if_neg (by show ¬ (sn s : Int) ≤ i; omega), ald_of i e rfl (by omega), ob, c32_n (by omega) (by omega), ob, c32_n (by omega) (by omega), ob, hc]
    rfl
  · intro N c hc
    simp only [fX12_heaps_4, fX12_heaps_28]
    rw [R.cb, ob, r_n R, ob, if_pos (by show (sn s : Int) ≤ (sn s : Int); omega), hc]
theorem RI.nam (R : RI h s hist x flt) : ∃ N, h.2 68 = some (arr 0 252 N) ∧ Eqn (sn s) N (sf s) := by
  obtain ⟨⟨pa, fp, sm, Z, P, W, X, K, N, a1, ⟨m0, m1, m2, m3, m4, m5⟩, ⟨t0, t1, t2, t3, t4, t5⟩, -⟩, -⟩ := R
  exact ⟨N, m5, fun i hi => by have := t5 i hi; simpa using this⟩
theorem r_heapsN (R : RI h s hist x flt) (G : GSc s) : fX12_heaps 62 68 h = some (mx (sf s) (sn s), h) := by
  obtain ⟨N, e, q⟩ := R.nam
  have hn := G.2.1
  have hg := G.2.2.2.2.2.2.2.2.2.2.2.2
  rw [r_heaps R hn e (by omega) (fun i hi => by rw [q i hi]; have := hg i hi; have := hg.lt hi; omega), mx_congr q]
end
theorem both_heap {h : Hp} (B : Both h) (a : Int) : ∃ r h1 h2, fX11_heap 1 a h = some (r, h1) ∧ fX12_heap 62 a h1 = some (r, h2) ∧ Both h2 := by
  obtain ⟨s, hist, x, flt, G, C, R⟩ := B
  have hn := G.1.2.1
  unfold fX11_heap
  rw [co C.1, ob, c_isThing C a, ob]
  by_cases e : 0 ≤ a ∧ a < sn s
  · obtain ⟨i, rfl⟩ := Int.eq_ofNat_of_zero_le e.1
    have hi : i < sn s := by omega
    have C1 := C.set 0
    obtain ⟨P, W, X, K, f, ⟨s0, s1, s2, s3, s4, p0, p1, p2⟩, z1, z2, z3, z4, z5⟩ := C1.2.1
    have R1 := R.ag (FC.put (h := h) (q := 1) (c := BO 0) (by omega))
    obtain ⟨h2, e2, R2, F2⟩ := R1.set 0
    obtain ⟨N, m, q⟩ := R2.nam
    obtain ⟨pa, fp, sm, o⟩ := R2.obj
    refine ⟨sf s i, hput h 1 (BO 0), h2, ?_, ?_, both_of (s := s) (hist := hist) (x := x) (flt := flt) (h := h) G C1 F2 R2⟩
    · rw [if_pos e, if_neg one0, C.put1 0, ob, gR 0 C1.1 rfl, ob, gR 5 s0 rfl, ob, gR 2 p0 rfl, ob, ald_of i p1 rfl (by omega), ob, z5 i hi]
    · unfold fX12_heap
      rw [e2, ob, R2.cb, ob, r_isThing R2 i, ob, if_pos e, if_neg one0, gR 5 o rfl, ob, ald_of i m rfl (by omega), ob, q i hi]; rfl
  · have R1 := R.ag (FC.put (h := h) (q := 1) (c := BO 1) (by omega))
    obtain ⟨h2, e2, R2, F2⟩ := R1.set 0
    obtain ⟨h3, e3, R3, F3⟩ := r_no R2 1
    refine ⟨-1, hput h 1 (BO 1), h3, ?_, ?_, both_of (s := s) (hist := hist) (x := x) (flt := flt) (h := h) G (C.set 1) (F2.tr F3) R3⟩
    · rw [if_neg e, if_pos rfl, co C.1, ob, c_refuse C 1, ob]
    · unfold fX12_heap
      rw [e2, ob, R2.cb, ob, r_isThing R2 a, ob, if_neg e, if_pos rfl, R2.cb, ob, e3, ob]; rfl
theorem both_count {h : Hp} (B : Both h) (a : Int) : ∃ r h1 h2, fX11_count 1 a h = some (r, h1) ∧ fX12_count 62 a h1 = some (r, h2) ∧ Both h2 := by
  obtain ⟨s, hist, x, flt, G, C, R⟩ := B
  have hn := G.1.2.1
  have C1 := C.set 0
  have R1 := R.ag (FC.put (h := h) (q := 1) (c := BO 0) (by omega))
  obtain ⟨h2, e2, R2, F2⟩ := R1.set 0
  have B2 : Both h2 := both_of (s := s) (hist := hist) (x := x) (flt := flt) (h := h) G C1 F2 R2
  obtain ⟨c1, c2, ⟨A, nx, c3⟩, c4, c5, c6, c7, c8, c9⟩ := id C1
  obtain ⟨⟨pa, fp, sm, Z, P, W, X, K, N, a1, a2, a3, a4, a5⟩, -⟩ := id R2
  obtain ⟨P', W', X', K', f, ⟨s0, s1, s2, s3, s4, p0, p1, p2⟩, -⟩ := c2
  by_cases k0 : a = 0
  · refine ⟨(sn s : Int), hput h 1 (BO 0), h2, ?_, ?_, B2⟩
    · unfold fX11_count; rw [C.put1 0, ob, if_pos k0, gR 0 c1 rfl, ob, gI 0 s0 rfl, ob]
    · unfold fX12_count; rw [e2, ob, if_pos k0, R2.cb, ob, r_n R2, ob]
  by_cases k1 : a = 1
  · refine ⟨mx (sf s) (sn s), hput h 1 (BO 0), h2, ?_, ?_, B2⟩
    · unfold fX11_count; rw [C.put1 0, ob, if_neg k0, if_pos k1, gR 0 c1 rfl, ob, gR 5 s0 rfl, ob, gI 1 p0 rfl, ob]
    · unfold fX12_count; rw [e2, ob, if_neg k0, if_pos k1, gR 5 a1 rfl, ob, R2.cb, ob, r_heapsN R2 G.1, ob]
  by_cases k2 : a = 2
  · refine ⟨(hist.length : Int), hput h 1 (BO 0), h2, ?_, ?_, B2⟩
    · unfold fX11_count; rw [C.put1 0, ob, if_neg k0, if_neg k1, if_pos k2, gR 1 c1 rfl, ob, gI 0 c3.2.2.2.2.2.2.1 rfl, ob]
    · unfold fX12_count; rw [e2, ob, if_neg k0, if_neg k1, if_pos k2, gI 6 a1 rfl, ob, a4.1]
  by_cases k3 : a = 3
  · obtain ⟨sz, hl, O, T, H, Bw, t1, -⟩ := c5
    refine ⟨x.2.1.1, hput h 1 (BO 0), h2, ?_, ?_, B2⟩
    · unfold fX11_count; rw [C.put1 0, ob, if_neg k0, if_neg k1, if_neg k2, if_pos k3, gR 3 c1 rfl, ob, gI 0 t1 rfl, ob]
    · unfold fX12_count; rw [e2, ob, if_neg k0, if_neg k1, if_neg k2, if_pos k3, gI 11 a1 rfl, ob]
  by_cases k4 : a = 4
  · obtain ⟨kk, ff, ⟨t1, -⟩, -⟩ := c7
    refine ⟨(x.2.2.2.1 : Int), hput h 1 (BO 0), h2, ?_, ?_, B2⟩
    · unfold fX11_count; rw [C.put1 0, ob, if_neg k0, if_neg k1, if_neg k2, if_neg k3, if_pos k4, gR 5 c1 rfl, ob, gI 0 t1 rfl, ob]
    · unfold fX12_count; rw [e2, ob, if_neg k0, if_neg k1, if_neg k2, if_neg k3, if_pos k4, gI 18 a1 rfl, ob]
  by_cases k5 : a = 5
  · obtain ⟨n, E, ⟨t1, t2⟩, t3, t4⟩ := c4
    refine ⟨n, hput h 1 (BO 0), h2, ?_, ?_, B2⟩
    · unfold fX11_count; rw [C.put1 0, ob, if_neg k0, if_neg k1, if_neg k2, if_neg k3, if_neg k4, if_pos k5, gR 2 c1 rfl, ob, gI 1 t1 rfl, ob]
    · unfold fX12_count; rw [e2, ob, if_neg k0, if_neg k1, if_neg k2, if_neg k3, if_neg k4, if_pos k5, gI 8 a1 rfl, ob]
      by_cases z : x.1.1 = -1
      · rw [if_pos z, (t3 z).1]; rfl
      · rw [if_neg z, gI 9 a1 rfl, ob, a5 z, (t4 z).1]; rfl
  · have R1' := R.ag (FC.put (h := h) (q := 1) (c := BO 1) (by omega))
    obtain ⟨h2', e2', R2', F2'⟩ := R1'.set 0
    obtain ⟨h3, e3, R3, F3⟩ := r_no R2' 1
    refine ⟨-1, hput h 1 (BO 1), h3, ?_, ?_, both_of (s := s) (hist := hist) (x := x) (flt := flt) (h := h) G (C.set 1) (F2'.tr F3) R3⟩
    · unfold fX11_count; rw [C.put1 0, ob, if_neg k0, if_neg k1, if_neg k2, if_neg k3, if_neg k4, if_neg k5, co C1.1, ob, c_refuse C1 1, ob, hput_hput]
    · unfold fX12_count; rw [e2', ob, if_neg k0, if_neg k1, if_neg k2, if_neg k3, if_neg k4, if_neg k5, R2'.cb, ob, e3, ob]
