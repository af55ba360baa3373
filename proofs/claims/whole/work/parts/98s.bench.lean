/-! constructors: the whole bench -/
def z0 : Hp := (0, fun _ => none)
section
variable {β : Type} {b : Hp} {fs fs' : List AV} {R : List AC}
theorem compS8 {a : Nat} (ha : a = b.1 + 1) {j : Nat} {q : Nat} (hq : b.1 + 1 + R.length + 1 = q) {v : Nat} (hv : fs[0]? = some (vr v)) (hv2 : v < q) (hj : j < fs.length) (e : fs.set j (vr q) = fs') (K : Hp → Option β) : ((crf (ext b (obj 10 fs :: R)) a).bind fun _ => (newO (ext b (obj 10 fs :: R)) (obj 7 [vr 0, vr 0, vr 0, vr 0, vl 0, vi 0, vi 0, vi 0])).bind fun p => (getR p.2 10 a 0).bind fun v48 => (cob p.2 7 p.1).bind fun _ => (crf p.2 p.1).bind fun _ => (crf p.2 a).bind fun _ => (fX8_init p.1 v48 p.2).bind fun h7 => (crf h7 p.1).bind fun _ => (putV h7 10 a j (vr p.1)).bind K) = K (ext b (obj 10 fs' :: (R ++ cSe q v))) := by
  have e1 : (ext b (obj 10 fs :: R)).1 = b.1 + (R.length + 1) := rfl
  have z := compS (b := b) (ci := 10) (fs := fs) (R := R) ha hq (fun q h => fX8_init q v h) (fun b' hb' => i_se q v b' hb' (by omega)) (by simp [cSe]) hj e K
  have g : getR (hadd (ext b (obj 10 fs :: R)) (obj 7 [vr 0, vr 0, vr 0, vr 0, vl 0, vi 0, vi 0, vi 0])) 10 a 0 = some v := gR 0 ((hadd_ne (by rw [e1]; omega)).trans (hdS ha)) hv
  rw [cr (by omega), ob, nO, ob] at z
  rw [cr (by omega), ob, nO, ob]
  show ((getR (hadd (ext b (obj 10 fs :: R)) (obj 7 [vr 0, vr 0, vr 0, vr 0, vl 0, vi 0, vi 0, vi 0])) 10 a 0).bind fun _ => _) = _
  rw [g, ob]
  exact z
end
def LBn (r : Nat → Int) : List AC := obj 10 [vr 2, vr 10, vr 12, vr 14, vr 19, vr 20, vr 23, vr 27, vr 41, vr 44, vr 47, vi 0] :: ([] ++ cSc 2 ++ cHi 10 ++ cSh 12 ++ cTr 14 ++ [rar 5 4 (fun _ => 0)] ++ cPt 20 ++ cSe 23 2 ++ cLi 27 ++ cMv 41 ++ cLk 44 ++ cNm 47 r)
theorem b_init : ∃ r : Nat → Int, (∀ k t, k + t < 13 → r (13 * k + t) = won t k) ∧ fX11_init 1 (ext z0 [obj 10 [vr 0, vr 0, vr 0, vr 0, vr 0, vr 0, vr 0, vr 0, vr 0, vr 0, vr 0, vi 0]]) = ((fX7_restart 2 1 (ext z0 (LBn r))).bind fun h90 => fX11_init_141 5 1 0 h90) := by
  obtain ⟨r, e, hr⟩ := i_nm 47 (ext z0 (obj 10 [vr 2, vr 10, vr 12, vr 14, vr 19, vr 20, vr 23, vr 27, vr 41, vr 44, vr 0, vi 0] :: ([] ++ cSc 2 ++ cHi 10 ++ cSh 12 ++ cTr 14 ++ [rar 5 4 (fun _ => 0)] ++ cPt 20 ++ cSe 23 2 ++ cLi 27 ++ cMv 41 ++ cLk 44))) rfl
  refine ⟨r, hr, ?_⟩
  have ha : (1 : Nat) = z0.1 + 1 := rfl
  unfold fX11_init
  rw [co (hdS ha), ob,
    compS ha (q := 2) rfl fX7_init (fun b' h' => i_sc 2 b' h') (by simp [cSc, cPt]) (by simp) rfl,
    compS ha (q := 10) rfl fX1_init (fun b' h' => i_hi 10 b' h') (by simp [cHi]) (by simp) rfl,
    compS ha (q := 12) rfl fX9_init (fun b' h' => i_sh 12 b' h') (by simp [cSh]) (by simp) rfl,
    compS ha (q := 14) rfl fX10_init (fun b' h' => i_tr 14 b' h') (by simp [cTr]) (by simp) rfl,
    rowS ha (q := 19) rfl (by simp) rfl,
    compS ha (q := 20) rfl fX6_init (fun b' h' => i_pt 20 b' h') (by simp [cPt]) (by simp) rfl,
    compS8 ha (q := 23) rfl (v := 2) rfl (by omega) (by simp) rfl,
    compS ha (q := 27) rfl fX3_init (fun b' h' => i_li 27 b' h') (by simp [cLi]) (by simp) rfl,
    compS ha (q := 41) rfl fX4_init (fun b' h' => i_mv 41 b' h') (by simp [cMv]) (by simp) rfl,
    compS ha (q := 44) rfl fX2_init (fun b' h' => i_lk 44 b' h') (by simp [cLk]) (by simp) rfl]
  refine (compE ha (q := 47) rfl fX5_init e (by simp [cNm]) (by simp) rfl _).trans ?_
  rw [setS ha (by simp) rfl, gR 0 (hdS ha) rfl, ob]
  show ((cob (ext z0 (LBn r)) 6 2).bind fun _ => (fX7_restart 2 1 (ext z0 (LBn r))).bind fun h90 => fX11_init_141 5 1 0 h90) = _
  have c2 : (ext z0 (LBn r)).2 2 = some (obj 6 [vi 1, vr 3, vr 4, vr 5, vr 6, vr 7]) := ext_at (q := 2) 1 rfl rfl
  rw [co c2, ob]
