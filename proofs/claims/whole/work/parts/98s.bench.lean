/-! constructors: the whole bench -/
def z0 : Hp := (0, fun _ => none)
def LBn (r : Nat → Int) : List AC := obj 10 [vr 2, vr 10, vr 12, vr 14, vr 19, vr 20, vr 23, vr 27, vr 41, vr 44, vr 47, vi 0] :: ([] ++ cSc 2 ++ cHi 10 ++ cSh 12 ++ cTr 14 ++ [rar 5 4 (fun _ => 0)] ++ cPt 20 ++ cSe 23 ++ cLi 27 ++ cMv 41 ++ cLk 44 ++ cNm 47 r)
theorem b_init : ∃ r : Nat → Int, (∀ k t, k + t < 13 → r (13 * k + t) = won t k) ∧ fX11_init 1 (ext z0 [obj 10 [vr 0, vr 0, vr 0, vr 0, vr 0, vr 0, vr 0, vr 0, vr 0, vr 0, vr 0, vi 0]]) = ((fX7_restart 2 1 (ext z0 (LBn r))).bind fun h90 => fX11_init_137 5 1 0 h90) := by
  obtain ⟨r, e, hr⟩ := i_nm 47 (ext z0 (obj 10 [vr 2, vr 10, vr 12, vr 14, vr 19, vr 20, vr 23, vr 27, vr 41, vr 44, vr 0, vi 0] :: ([] ++ cSc 2 ++ cHi 10 ++ cSh 12 ++ cTr 14 ++ [rar 5 4 (fun _ => 0)] ++ cPt 20 ++ cSe 23 ++ cLi 27 ++ cMv 41 ++ cLk 44))) rfl
  refine ⟨r, hr, ?_⟩
  have ha : (1 : Nat) = z0.1 + 1 := rfl
  unfold fX11_init
  rw [co (hdS ha), ob,
    compS ha (q := 2) rfl fX7_init (fun b' h' => i_sc 2 b' h') (by simp [cSc, cPt]) (by simp) rfl,
    compS ha (q := 10) rfl fX1_init (fun b' h' => i_hi 10 b' h') (by simp [cHi]) (by simp) rfl,
    compS ha (q := 12) rfl fX9_init (fun b' h' => i_sh 12 b' h') (by simp [cSh]) (by simp) rfl,
    compS ha (q := 14) rfl fX10_init (fun b' h' => i_tr 14 b' h') (by simp [cTr]) (by simp) rfl,
    rowS ha (q := 19) rfl (by simp) rfl,
    compS ha (q := 20) rfl fX6_init (fun b' h' => i_pt 20 b' h') (by simp [cPt]) (by simp) rfl,
    compS ha (q := 23) rfl fX8_init (fun b' h' => i_se 23 b' h') (by simp [cSe]) (by simp) rfl,
    compS ha (q := 27) rfl fX3_init (fun b' h' => i_li 27 b' h') (by simp [cLi]) (by simp) rfl,
    compS ha (q := 41) rfl fX4_init (fun b' h' => i_mv 41 b' h') (by simp [cMv]) (by simp) rfl,
    compS ha (q := 44) rfl fX2_init (fun b' h' => i_lk 44 b' h') (by simp [cLk]) (by simp) rfl]
  refine (compE ha (q := 47) rfl fX5_init e (by simp [cNm]) (by simp) rfl _).trans ?_
  rw [setS ha (by simp) rfl, gR 0 (hdS ha) rfl, ob]
  show ((cob (ext z0 (LBn r)) 6 2).bind fun _ => (fX7_restart 2 1 (ext z0 (LBn r))).bind fun h90 => fX11_init_137 5 1 0 h90) = _
  have c2 : (ext z0 (LBn r)).2 2 = some (obj 6 [vi 1, vr 3, vr 4, vr 5, vr 6, vr 7]) := ext_at (q := 2) 1 rfl rfl
  rw [co c2, ob]
