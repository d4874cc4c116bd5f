/-! ===== the reference's methods (5): deeds, writes, the draft ===== -/
noncomputable def dJ (I : Nat → Int → Int) (s : Int) : Nat → Int → Int := if I 104 s = 30 then sY I s else I
/-- a deed is added -/
def dA (J : Nat → Int → Int) (s a o : Int) : Nat → Int → Int :=
  rowU (rowU (rowU (rowU J 105 (up1 (J 105) (30 * s + J 104 s) a)) 106 (up1 (J 106) (30 * s + J 104 s) o)) 107 (up1 (J 107) (30 * s + J 104 s) 0)) 104 (up1 (J 104) s (J 104 s + 1))
noncomputable def dO (I : Nat → Int → Int) (s a o : Int) : Nat → Int → Int := dA (dJ I s) s a o
theorem sY_104 (I : Nat → Int → Int) (s : Int) : sY I s 104 s = 0 := by
  unfold sY
  rw [rowU_eq, up1_eq]
theorem dJ_104 {I : Nat → Int → Int} {s : Int} (h : 0 ≤ I 104 s ∧ I 104 s ≤ 30) : 0 ≤ dJ I s 104 s ∧ dJ I s 104 s < 30 := by
  unfold dJ
  split
  · rw [sY_104]; omega
  · omega
theorem r186 {h : HP} {I : Nat → Int → Int} {s a o : Int} {v4 : MV} (L : LX 11 h 94) (ht : 0 ≤ I 94 0 ∧ I 94 0 ≤ 120) (E : WL I) (N : WN I) (hP : ∀ j, I 109 j = 0 ∨ I 109 j = 1) (hs : s = 0 ∨ s = 1) (hd : 0 ≤ I 104 s ∧ I 104 s ≤ 30) :
    Go 186 0 [.inr (.inl (some 94)), .inl s, .inl a, .inl o, v4] [] (mI h I) = some (mI h (dO I s a o), .inl (some (.inl (dJ I s 104 s)))) := by
  have key : Go 186 0 [.inr (.inl (some 94)), .inl s, .inl a, .inl o, v4] [] (mI h I) = Go 186 10 [.inr (.inl (some 94)), .inl s, .inl a, .inl o, v4] [] (mI h (dJ I s)) := by
    unfold dJ
    by_cases hc : I 104 s = 30
    · simp (disch := first | assumption | exact b01_or _ | (simp (decide := true) only [WB_U, WK_U, WL_U]; assumption) | omega | (simp only [rowU, Nat.reduceEqDiff, ↓reduceIte]; omega)) only [ne_eq, not_true_eq_false, not_false_eq_true, if_true, if_false, ite_true, ite_false, caln_v, caln_r, caln_x, Int.reduceEq, Int.reduceNe, Int.reduceLT, Int.reduceLE, Int.reduceAdd, Int.reduceMul, Int.reduceSub, b186_0, b186_6, b186_9, hc, r185]
    · simp (disch := first | assumption | exact b01_or _ | (simp (decide := true) only [WB_U, WK_U, WL_U]; assumption) | omega | (simp only [rowU, Nat.reduceEqDiff, ↓reduceIte]; omega)) only [ne_eq, not_true_eq_false, not_false_eq_true, if_true, if_false, ite_true, ite_false, caln_v, caln_r, caln_x, Int.reduceEq, Int.reduceNe, Int.reduceLT, Int.reduceLE, Int.reduceAdd, Int.reduceMul, Int.reduceSub, b186_0, hc]
  have hj := dJ_104 hd
  rw [key, b186_10 L (by omega) (by omega) (by omega) (by omega) (by simp only [zu2_row, rowU, Nat.reduceEqDiff, ↓reduceIte]; omega)]
  simp only [zu2_row, rowU, Nat.reduceEqDiff, ↓reduceIte]
  rfl
theorem r187 {h : HP} {I : Nat → Int → Int} {s : Int} (L : LX 11 h 94) (N : WN I) (hs : s = 0 ∨ s = 1) (hd : 0 ≤ I 104 s ∧ I 104 s ≤ 30) :
    Go 187 0 [.inr (.inl (some 94)), .inl s] [] (mI h I) = some (mI h (kN I s (I 104 s)), .inl none) := by
  simp (disch := first | assumption | exact b01_or _ | (simp (decide := true) only [WB_U, WK_U, WL_U]; assumption) | omega | (simp only [rowU, Nat.reduceEqDiff, ↓reduceIte]; omega)) only [ne_eq, not_true_eq_false, not_false_eq_true, if_true, if_false, ite_true, ite_false, caln_v, caln_r, caln_x, Int.reduceEq, Int.reduceNe, Int.reduceLT, Int.reduceLE, Int.reduceAdd, Int.reduceMul, Int.reduceSub, b187_0, b187_7, r183]
noncomputable def wR (I : Nat → Int → Int) (s o : Int) : Nat → Int → Int := rowU I 126 (up1 (I 126) (120 * s + o) (I 94 8))
noncomputable def wW (I : Nat → Int → Int) (s o : Int) : Nat → Int → Int :=
  @ite _ (Gd I s o) (Classical.propDecidable _) (wR I s o) (rowU (dO (wR I s o) s 0 o) 101 (up1 (dO (wR I s o) s 0 o 101) (120 * s + o) (2 + dJ (wR I s o) s 104 s)))
theorem r188 {h : HP} {I : Nat → Int → Int} {s o : Int} {v3 : MV} (L : LX 11 h 94) (ht : 0 ≤ I 94 0 ∧ I 94 0 ≤ 120) (E : WL I) (N : WN I) (K : WK I) (hP : ∀ j, I 109 j = 0 ∨ I 109 j = 1) (hs : s = 0 ∨ s = 1) (ho : 0 ≤ o ∧ o < 120) (hd : 0 ≤ I 104 s ∧ I 104 s ≤ 30) :
    Go 188 0 [.inr (.inl (some 94)), .inl s, .inl o, v3] [] (mI h I) = some (mI h (wW I s o), .inl none) := by
  rw [b188_0 L (by omega) (by omega) (by omega), zu2_row]
  rw [show rowU I 126 (up1 (I 126) (120 * s + o) (I 94 8)) = wR I s o from rfl]
  have E2 : WL (wR I s o) := by unfold wR; rw [WL_U (by decide)]; exact E
  have K2 : WK (wR I s o) := by unfold wR; rw [WK_U (by decide)]; exact K
  have G2 : Gd (wR I s o) s o = Gd I s o := by unfold wR; rw [Gd_U (by decide)]
  rw [r181 L K2 E2 hs ho, G2]
  unfold wW
  by_cases hg : Gd I s o
  · rw [if_pos hg, b01_t hg]
    simp (disch := first | assumption | exact b01_or _ | (simp (decide := true) only [WB_U, WK_U, WL_U]; assumption) | omega | (simp only [rowU, Nat.reduceEqDiff, ↓reduceIte]; omega)) only [ne_eq, not_true_eq_false, not_false_eq_true, if_true, if_false, ite_true, ite_false, caln_v, caln_r, caln_x, Int.reduceEq, Int.reduceNe, Int.reduceLT, Int.reduceLE, Int.reduceAdd, Int.reduceMul, Int.reduceSub, b188_14, b188_32]
  · rw [if_neg hg, b01_f hg]
    have hj := dJ_104 (I := wR I s o) (s := s) hd
    simp (disch := first | assumption | exact b01_or _ | (simp (decide := true) only [WB_U, WK_U, WL_U]; assumption) | omega | (simp only [rowU, Nat.reduceEqDiff, ↓reduceIte]; omega)) only [ne_eq, not_true_eq_false, not_false_eq_true, if_true, if_false, ite_true, ite_false, caln_v, caln_r, caln_x, Int.reduceEq, Int.reduceNe, Int.reduceLT, Int.reduceLE, Int.reduceAdd, Int.reduceMul, Int.reduceSub, b188_14, b188_15]
    rw [r186 (I := wR I s o) L ht E2 N hP hs hd]
    simp (disch := first | assumption | exact b01_or _ | (simp (decide := true) only [WB_U, WK_U, WL_U]; assumption) | omega | (simp only [rowU, Nat.reduceEqDiff, ↓reduceIte]; omega)) only [ne_eq, not_true_eq_false, not_false_eq_true, if_true, if_false, ite_true, ite_false, caln_v, caln_r, caln_x, Int.reduceEq, Int.reduceNe, Int.reduceLT, Int.reduceLE, Int.reduceAdd, Int.reduceMul, Int.reduceSub, b188_20, b188_32, zu2_row]
/-- only a field of the reference itself changes -/
def tH (I : Nat → Int → Int) (x : Int) : Nat → Int → Int := rowU I 94 (up1 (I 94) 49 x)
theorem r190 {h : HP} {I : Nat → Int → Int} {v : MV} (L : LX 11 h 94) : Go 190 0 [.inr (.inl (some 94)), v] [] (mI h I) = some (mI h (rowU (tH I 0) 94 (up1 (tH I 0 94) 5 0)), .inl (some (.inl (I 94 5)))) := by
  simp (disch := first | assumption | exact b01_or _ | (simp (decide := true) only [WB_U, WK_U, WL_U]; assumption) | omega | (simp only [rowU, Nat.reduceEqDiff, ↓reduceIte]; omega)) only [ne_eq, not_true_eq_false, not_false_eq_true, if_true, if_false, ite_true, ite_false, caln_v, caln_r, caln_x, Int.reduceEq, Int.reduceNe, Int.reduceLT, Int.reduceLE, Int.reduceAdd, Int.reduceMul, Int.reduceSub, b190_0, zu2_row, rowU, Nat.reduceEqDiff, ↓reduceIte]
  rfl
