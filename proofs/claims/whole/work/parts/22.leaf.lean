theorem hput_ne {h : Hp} {q : Nat} {c : AC} {k : Nat} (hk : k ≠ q) : (hput h q c).2 k = h.2 k := if_neg hk
theorem hput_eq {h : Hp} {q : Nat} {c : AC} : (hput h q c).2 q = some c := if_pos rfl
def isPt (h : Hp) (q : Nat) (n k : Int) (f : Nat → Int) : Prop := h.2 q = some (obj 5 [vi n, vi k, vr (q + 1), vr (q + 2)]) ∧ h.2 (q + 1) = some (arr 0 12 f) ∧ ∃ g, h.2 (q + 2) = some (arr 0 13 g)
def isSq (h : Hp) (q : Nat) (n m : Int) (P W X K : Nat → Int) (k : Int) (f : Nat → Int) : Prop := h.2 q = some (obj 6 [vi n, vr (q + 1), vr (q + 2), vr (q + 3), vr (q + 4), vr (q + 5)]) ∧ h.2 (q + 1) = some (arr 0 48 P) ∧ h.2 (q + 2) = some (arr 0 144 W) ∧ h.2 (q + 3) = some (arr 0 144 X) ∧ h.2 (q + 4) = some (arr 0 144 K) ∧ isPt h (q + 5) m k f
abbrev isSc (h : Hp) (q : Nat) (n : Int) (P W X K : Nat → Int) (k : Int) (f : Nat → Int) : Prop := isSq h q n n P W X K k f
theorem fillI {h : Hp} {q m : Nat} {F : Nat → Int} (v : Int) (hm : m ≤ 1000000) (hq : h.2 q = some (arr 0 m F)) : ∃ G, fJ7_fill_53178 q v h = some (hput h q (arr 0 m G)) ∧ ∀ j, j < m → G j = v := by
  unfold fJ7_fill_53178
  rw [aln_of hq, ob]
  suffices z : ∃ G, fJ7_fill_53178_5 FU q v ((0 : Nat) : Int) m (hput h q (arr 0 m F)) = some (hput h q (arr 0 m G)) ∧ ∀ j, j < m → G j = v by
    rw [hput_self hq] at z; exact z
  refine lp (fun N i (g : Nat → Int) => fJ7_fill_53178_5 N q v i m (hput h q (arr 0 m g))) (fun i g => ∀ j, j < i → g j = v) m (fun o => ∃ G, o = some (hput h q (arr 0 m G)) ∧ ∀ j, j < m → G j = v) ?_ ?_ FU 0 F (Nat.zero_le _) (FU_lt (by omega)) (fun j hj => by omega)
  · intro N i g hi hg
    refine ⟨ups g i v, ?_, ?_⟩
    · intro j hj
      by_cases e : j = i
      · simp [ups_at, e]
      · simp [ups_at, e, hg j (by omega)]
    · simp only [fJ7_fill_53178_5]
      rw [if_neg (by omega), ast_of i hput_eq rfl hi, ob, hput_hput, c32_n (by omega) (by omega), ob]
      rfl
  · intro N g hg
    simp only [fJ7_fill_53178_5, fJ7_fill_53178_20]
    rw [if_pos (by omega)]
    exact ⟨g, rfl, hg⟩
theorem wayOf_ok {h : Hp} {q : Nat} {n : Int} {P W X K : Nat → Int} {k : Int} {f : Nat → Int} (S : isSc h q n P W X K k f) {i j : Nat} (hi : i < 12) (hj : j < 12) : fX7_wayOf q i j h = some (W (12 * i + j), h) := by
  obtain ⟨s0, s1, s2, s3, s4, s5⟩ := S
  unfold fX7_wayOf
  rw [gR 2 s0 rfl, ob, ald_of (12 * i + j) s2 (by omega) (by omega), ob]
theorem weightOf_ok {h : Hp} {q : Nat} {n : Int} {P W X K : Nat → Int} {k : Int} {f : Nat → Int} (S : isSc h q n P W X K k f) {i j : Nat} (hi : i < 12) (hj : j < 12) : fX7_weightOf q i j h = some (X (12 * i + j), h) := by
  obtain ⟨s0, s1, s2, s3, s4, s5⟩ := S
  unfold fX7_weightOf
  rw [gR 3 s0 rfl, ob, ald_of (12 * i + j) s3 (by omega) (by omega), ob]
theorem likeOf_ok {h : Hp} {q : Nat} {n : Int} {P W X K : Nat → Int} {k : Int} {f : Nat → Int} (S : isSc h q n P W X K k f) {i j : Nat} (hi : i < 12) (hj : j < 12) : fX7_likeOf q i j h = some (K (12 * i + j), h) := by
  obtain ⟨s0, s1, s2, s3, s4, s5⟩ := S
  unfold fX7_likeOf
  rw [gR 4 s0 rfl, ob, ald_of (12 * i + j) s4 (by omega) (by omega), ob]
theorem firstNumber_ok {h : Hp} {q : Nat} {n : Int} {P W X K : Nat → Int} {k : Int} {f : Nat → Int} (S : isSc h q n P W X K k f) {i : Nat} (hi : i < 12) : fX7_firstNumber q i h = some (P (4 * i), h) := by
  obtain ⟨s0, s1, s2, s3, s4, s5⟩ := S
  unfold fX7_firstNumber
  rw [gR 1 s0 rfl, ob, ald_of (4 * i) s1 (by omega) (by omega), ob]
theorem setWay_ok {h : Hp} {q : Nat} {n : Int} {P W X K : Nat → Int} {k : Int} {f : Nat → Int} (S : isSc h q n P W X K k f) {i j : Nat} (hi : i < 12) (hj : j < 12) (v : Int) : fX7_setWay q i j v h = some (hput h (q + 2) (arr 0 144 (ups (ups W (12 * i + j) v) (12 * j + i) v))) := by
  obtain ⟨s0, s1, s2, s3, s4, s5⟩ := S
  unfold fX7_setWay
  rw [gR 2 s0 rfl, ob, ast_of (12 * i + j) s2 (by omega) (by omega), ob, gR 2 (hput_ne (by omega) |>.trans s0) rfl, ob, ast_of (12 * j + i) hput_eq (by omega) (by omega), ob, hput_hput]
theorem setQuarrel_ok {h : Hp} {q : Nat} {n : Int} {P W X K : Nat → Int} {k : Int} {f : Nat → Int} (S : isSc h q n P W X K k f) {i j : Nat} (hi : i < 12) (hj : j < 12) (v u : Int) : fX7_setQuarrel q i j v u h = some (hput (hput h (q + 3) (arr 0 144 (ups (ups X (12 * i + j) v) (12 * j + i) v))) (q + 4) (arr 0 144 (ups (ups K (12 * i + j) u) (12 * j + i) u))) := by
  obtain ⟨s0, s1, s2, s3, s4, s5⟩ := S
  unfold fX7_setQuarrel
  rw [gR 3 s0 rfl, ob, ast_of (12 * i + j) s3 (by omega) (by omega), ob, gR 3 (hput_ne (by omega) |>.trans s0) rfl, ob, ast_of (12 * j + i) hput_eq (by omega) (by omega), ob, hput_hput,
    gR 4 (hput_ne (by omega) |>.trans s0) rfl, ob, ast_of (12 * i + j) (hput_ne (by omega) |>.trans s4) (by omega) (by omega), ob, gR 4 (hput_ne (by omega) |>.trans (hput_ne (by omega) |>.trans s0)) rfl, ob, ast_of (12 * j + i) hput_eq (by omega) (by omega), ob, hput_hput]
