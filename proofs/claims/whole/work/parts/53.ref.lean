/-! ===== the reference's methods (4): notes, syncs, deeds ===== -/
def fillR (f : Int → Int) (a b : Int) (g : Int → Int) : Int → Int := fun j => if a ≤ j ∧ j < b then g j else f j
theorem fillR_0 {f g : Int → Int} {a b : Int} (h : b ≤ a) : fillR f a b g = f := by
  funext j
  exact if_neg (by omega)
theorem fillR_s {f g : Int → Int} {a b v : Int} (h : a ≤ b) (hv : v = g b) : up1 (fillR f a b g) b v = fillR f a (b + 1) g := by
  funext j
  unfold up1 fillR
  by_cases hj : j = b
  · subst hj; rw [if_pos rfl, if_pos (by omega), hv]
  · rw [if_neg hj]
    by_cases hl : a ≤ j ∧ j < b
    · rw [if_pos hl, if_pos (by omega)]
    · rw [if_neg hl, if_neg (by omega)]
theorem fillR_in {f g : Int → Int} {a b j : Int} (h : a ≤ j ∧ j < b) : fillR f a b g j = g j := if_pos h
theorem fillR_out {f g : Int → Int} {a b j : Int} (h : ¬(a ≤ j ∧ j < b)) : fillR f a b g j = f j := if_neg h
/-- what a note keeps of an object, at a place of the store's rows -/
def nC (I : Nat → Int → Int) (at_ : Int) : Int := 4 * I 118 at_ + (if I 116 at_ = 0 then 0 else 2) + (if I 117 at_ = 0 then 0 else 1)
def kN (I : Nat → Int → Int) (s n : Int) : Nat → Int → Int :=
  rowU (rowU (rowU I 120 (fillR (I 120) (6 * (31 * s + n)) (6 * (31 * s + n) + 6) (fun j => I 115 (6 * s + (j - 6 * (31 * s + n))))))
    121 (fillR (I 121) (120 * (31 * s + n)) (120 * (31 * s + n) + 120) (fun j => nC I (120 * s + (j - 120 * (31 * s + n))))))
    122 (up1 (I 122) (31 * s + n) (I 119 s))
def WN (I : Nat → Int → Int) : Prop := ∀ j, 0 ≤ I 118 j ∧ I 118 j ≤ 100
theorem r183 {h : HP} {I : Nat → Int → Int} {s n : Int} {v3 v4 v5 : MV} (L : LX 11 h 94) (N : WN I) (hs : s = 0 ∨ s = 1) (hn : 0 ≤ n ∧ n < 31) :
    Go 183 0 [.inr (.inl (some 94)), .inl s, .inl n, v3, v4, v5] [] (mI h I) = some (mI h (kN I s n), .inl none) := by
  rw [b183_0 (by omega) (by omega)]
  obtain ⟨to, hto⟩ : ∃ to, to = 31 * s + n := ⟨_, rfl⟩
  unfold kN
  rw [← hto]
  have hto2 : 0 ≤ to ∧ to < 62 := by omega
  clear hto
  have key1 := lpU (fun k => Go 183 8 [.inr (.inl (some 94)), .inl s, .inl n, .inl to, .inl k, v5] [] (mI h (rowU I 120 (fillR (I 120) (6 * to) (6 * to + k) (fun j => I 115 (6 * s + (j - 6 * to))))))) 0 6 (by omega) ?_
  · rw [fillR_0 (by omega), rowU_id] at key1
    rw [key1, b183_8]
    simp (disch := first | assumption | exact b01_or _ | (simp (decide := true) only [WB_U, WK_U, WL_U]; assumption) | omega | (simp only [rowU, Nat.reduceEqDiff, ↓reduceIte]; omega)) only [ne_eq, not_true_eq_false, not_false_eq_true, if_true, if_false, ite_true, ite_false, caln_v, caln_r, caln_x, Int.reduceEq, Int.reduceNe, Int.reduceLT, Int.reduceLE, Int.reduceAdd, Int.reduceMul, Int.reduceSub, Int.le_refl, b183_29]
    generalize fillR (I 120) (6 * to) (6 * to + 6) (fun j => I 115 (6 * s + (j - 6 * to))) = f
    have key2 := lpE (fun k (v : MV) => Go 183 31 [.inr (.inl (some 94)), .inl s, .inl n, .inl to, .inl k, v] [] (mI h (rowU (rowU I 120 f) 121 (fillR (I 121) (120 * to) (120 * to + k) (fun j => nC I (120 * s + (j - 120 * to))))))) (fun _ _ => True) 0 120 (by omega) ?_ v5 trivial
    · obtain ⟨v, e, -⟩ := key2
      rw [fillR_0 (by omega)] at e
      have e1 : rowU (rowU I 120 f) 121 (I 121) = rowU I 120 f := by
        have := rowU_id (rowU I 120 f) 121
        rwa [rowU_ne (by decide)] at this
      rw [e1] at e
      rw [e, b183_31]
      simp (disch := first | assumption | exact b01_or _ | (simp (decide := true) only [WB_U, WK_U, WL_U]; assumption) | omega | (simp only [rowU, Nat.reduceEqDiff, ↓reduceIte]; omega)) only [ne_eq, not_true_eq_false, not_false_eq_true, if_true, if_false, ite_true, ite_false, caln_v, caln_r, caln_x, Int.reduceEq, Int.reduceNe, Int.reduceLT, Int.reduceLE, Int.reduceAdd, Int.reduceMul, Int.reduceSub, Int.le_refl, b183_74, zu2_row, rowU, Nat.reduceEqDiff, ↓reduceIte]
    · intro k v hk0 hk1 _
      have hk : ¬ 120 ≤ k := by omega
      have hr := N (120 * s + k)
      refine ⟨.inl (120 * s + k), ?_, trivial⟩
      rw [b183_31]
      simp only [hk, if_false]
      rw [b183_34 (by omega) (by omega) L (by omega) (by omega) (by omega) (by simp only [rowU, Nat.reduceEqDiff, ↓reduceIte]; omega)]
      have hst : ∀ v, v = nC I (120 * s + k) → up1 (fillR (I 121) (120 * to) (120 * to + k) (fun j => nC I (120 * s + (j - 120 * to)))) (120 * to + k) v = fillR (I 121) (120 * to) (120 * to + (k + 1)) (fun j => nC I (120 * s + (j - 120 * to))) := by
        intro v hv
        rw [fillR_s (by omega), Int.add_assoc]
        rw [hv]
        congr 2
        omega
      by_cases h6 : I 116 (120 * s + k) = 0
      · by_cases h7 : I 117 (120 * s + k) = 0
        · simp (disch := first | assumption | exact b01_or _ | (simp (decide := true) only [WB_U, WK_U, WL_U]; assumption) | omega | (simp only [rowU, Nat.reduceEqDiff, ↓reduceIte]; omega)) only [ne_eq, not_true_eq_false, not_false_eq_true, if_true, if_false, ite_true, ite_false, caln_v, caln_r, caln_x, Int.reduceEq, Int.reduceNe, Int.reduceLT, Int.reduceLE, Int.reduceAdd, Int.reduceMul, Int.reduceSub, b183_0, b183_11, b183_29, b183_34, b183_58, b183_60, b183_61, b183_67, b183_69, b183_70, b183_74, rowU, Nat.reduceEqDiff, ↓reduceIte, h6, h7, zu2_row, rowU_tw]
          rw [hst _ (by unfold nC; rw [if_pos h6, if_pos h7])]
        · simp (disch := first | assumption | exact b01_or _ | (simp (decide := true) only [WB_U, WK_U, WL_U]; assumption) | omega | (simp only [rowU, Nat.reduceEqDiff, ↓reduceIte]; omega)) only [ne_eq, not_true_eq_false, not_false_eq_true, if_true, if_false, ite_true, ite_false, caln_v, caln_r, caln_x, Int.reduceEq, Int.reduceNe, Int.reduceLT, Int.reduceLE, Int.reduceAdd, Int.reduceMul, Int.reduceSub, b183_0, b183_11, b183_29, b183_34, b183_58, b183_60, b183_61, b183_67, b183_69, b183_70, b183_74, rowU, Nat.reduceEqDiff, ↓reduceIte, h6, h7, zu2_row, rowU_tw]
          rw [hst _ (by unfold nC; rw [if_pos h6, if_neg h7])]
      · by_cases h7 : I 117 (120 * s + k) = 0
        · simp (disch := first | assumption | exact b01_or _ | (simp (decide := true) only [WB_U, WK_U, WL_U]; assumption) | omega | (simp only [rowU, Nat.reduceEqDiff, ↓reduceIte]; omega)) only [ne_eq, not_true_eq_false, not_false_eq_true, if_true, if_false, ite_true, ite_false, caln_v, caln_r, caln_x, Int.reduceEq, Int.reduceNe, Int.reduceLT, Int.reduceLE, Int.reduceAdd, Int.reduceMul, Int.reduceSub, b183_0, b183_11, b183_29, b183_34, b183_58, b183_60, b183_61, b183_67, b183_69, b183_70, b183_74, rowU, Nat.reduceEqDiff, ↓reduceIte, h6, h7, zu2_row, rowU_tw]
          rw [hst _ (by unfold nC; rw [if_neg h6, if_pos h7])]
        · simp (disch := first | assumption | exact b01_or _ | (simp (decide := true) only [WB_U, WK_U, WL_U]; assumption) | omega | (simp only [rowU, Nat.reduceEqDiff, ↓reduceIte]; omega)) only [ne_eq, not_true_eq_false, not_false_eq_true, if_true, if_false, ite_true, ite_false, caln_v, caln_r, caln_x, Int.reduceEq, Int.reduceNe, Int.reduceLT, Int.reduceLE, Int.reduceAdd, Int.reduceMul, Int.reduceSub, b183_0, b183_11, b183_29, b183_34, b183_58, b183_60, b183_61, b183_67, b183_69, b183_70, b183_74, rowU, Nat.reduceEqDiff, ↓reduceIte, h6, h7, zu2_row, rowU_tw]
          rw [hst _ (by unfold nC; rw [if_neg h6, if_neg h7])]
  · intro k h0 h1
    have hk : ¬ 6 ≤ k := by omega
    rw [b183_8]
    simp (disch := first | assumption | exact b01_or _ | (simp (decide := true) only [WB_U, WK_U, WL_U]; assumption) | omega | (simp only [rowU, Nat.reduceEqDiff, ↓reduceIte]; omega)) only [ne_eq, not_true_eq_false, not_false_eq_true, if_true, if_false, ite_true, ite_false, caln_v, caln_r, caln_x, Int.reduceEq, Int.reduceNe, Int.reduceLT, Int.reduceLE, Int.reduceAdd, Int.reduceMul, Int.reduceSub, hk]
    rw [b183_11 L (by omega) (by omega) (by omega) (by omega) (by omega) (by omega) (by omega)]
    simp only [rowU, Nat.reduceEqDiff, ↓reduceIte, zu2_row, rowU_tw]
    rw [fillR_s (by omega) (by congr 1; omega), Int.add_assoc]
theorem rowU_k3 {X : Nat → Int → Int} {a b c : Nat} {f g e f1 g1 e1 : Int → Int} : rowU (rowU (rowU (rowU (rowU (rowU X a f) b g) c e) a f1) b g1) c e1 = rowU (rowU (rowU X a f1) b g1) c e1 := by
  funext i
  unfold rowU
  by_cases h1 : i = c
  · simp only [h1, if_true]
  · by_cases h2 : i = b
    · simp only [h1, h2, if_true, if_false]
    · by_cases h3 : i = a
      · simp only [h1, h2, h3, if_true, if_false]
      · simp only [h1, h2, h3, if_false]
theorem rowU_i3 (X : Nat → Int → Int) {a b c : Nat} (hb : b ≠ a) (hc : c ≠ a) (hd : c ≠ b) : rowU (rowU (rowU X a (X a)) b (X b)) c (X c) = X := by
  rw [rowU_id, rowU_id, rowU_id]
noncomputable def tN (I : Nat → Int → Int) (s n : Int) : Nat → Int → Int :=
  rowU (rowU (rowU (rowU (rowU I 115 (fillR (I 115) (6 * s) (6 * s + 6) (fun j => I 120 (6 * (31 * s + n) + (j - 6 * s)))))
    118 (fillR (I 118) (120 * s) (120 * s + 120) (fun j => I 121 (120 * (31 * s + n) + (j - 120 * s)) / 4)))
    116 (fillR (I 116) (120 * s) (120 * s + 120) (fun j => b01 (I 121 (120 * (31 * s + n) + (j - 120 * s)) / 2 % 2 = 1))))
    117 (fillR (I 117) (120 * s) (120 * s + 120) (fun j => b01 (I 121 (120 * (31 * s + n) + (j - 120 * s)) % 2 = 1))))
    119 (up1 (I 119) s (I 122 (31 * s + n)))
theorem r184 {h : HP} {I : Nat → Int → Int} {s n : Int} {v3 v4 v5 v6 : MV} (L : LX 11 h 94) (N : ∀ j, 0 ≤ I 121 j) (hs : s = 0 ∨ s = 1) (hn : 0 ≤ n ∧ n < 31) :
    Go 184 0 [.inr (.inl (some 94)), .inl s, .inl n, v3, v4, v5, v6] [] (mI h I) = some (mI h (tN I s n), .inl none) := by
  rw [b184_0 (by omega) (by omega)]
  obtain ⟨to, hto⟩ : ∃ to, to = 31 * s + n := ⟨_, rfl⟩
  unfold tN
  rw [← hto]
  have hto2 : 0 ≤ to ∧ to < 62 := by omega
  clear hto
  have key1 := lpU (fun k => Go 184 8 [.inr (.inl (some 94)), .inl s, .inl n, .inl to, .inl k, v5, v6] [] (mI h (rowU I 115 (fillR (I 115) (6 * s) (6 * s + k) (fun j => I 120 (6 * to + (j - 6 * s))))))) 0 6 (by omega) ?_
  · rw [fillR_0 (by omega), rowU_id] at key1
    rw [key1, b184_8]
    simp (disch := first | assumption | exact b01_or _ | (simp (decide := true) only [WB_U, WK_U, WL_U]; assumption) | omega | (simp only [rowU, Nat.reduceEqDiff, ↓reduceIte]; omega)) only [ne_eq, not_true_eq_false, not_false_eq_true, if_true, if_false, ite_true, ite_false, caln_v, caln_r, caln_x, Int.reduceEq, Int.reduceNe, Int.reduceLT, Int.reduceLE, Int.reduceAdd, Int.reduceMul, Int.reduceSub, Int.le_refl, b184_29]
    generalize fillR (I 115) (6 * s) (6 * s + 6) (fun j => I 120 (6 * to + (j - 6 * s))) = f
    have key2 := lpE (fun k (v : MV × MV) => Go 184 31 [.inr (.inl (some 94)), .inl s, .inl n, .inl to, .inl k, v.1, v.2] [] (mI h (rowU (rowU (rowU (rowU I 115 f)
      118 (fillR (I 118) (120 * s) (120 * s + k) (fun j => I 121 (120 * to + (j - 120 * s)) / 4)))
      116 (fillR (I 116) (120 * s) (120 * s + k) (fun j => b01 (I 121 (120 * to + (j - 120 * s)) / 2 % 2 = 1))))
      117 (fillR (I 117) (120 * s) (120 * s + k) (fun j => b01 (I 121 (120 * to + (j - 120 * s)) % 2 = 1)))))) (fun _ _ => True) 0 120 (by omega) ?_ (v5, v6) trivial
    · obtain ⟨v, e, -⟩ := key2
      rw [fillR_0 (by omega), fillR_0 (by omega), fillR_0 (by omega)] at e
      have e1 : rowU (rowU (rowU (rowU I 115 f) 118 (I 118)) 116 (I 116)) 117 (I 117) = rowU I 115 f := by
        have := rowU_i3 (rowU I 115 f) (a := 118) (b := 116) (c := 117) (by decide) (by decide) (by decide)
        rwa [rowU_ne (by decide), rowU_ne (by decide), rowU_ne (by decide)] at this
      rw [e1] at e
      rw [e, b184_31]
      simp (disch := first | assumption | exact b01_or _ | (simp (decide := true) only [WB_U, WK_U, WL_U]; assumption) | omega | (simp only [rowU, Nat.reduceEqDiff, ↓reduceIte]; omega)) only [ne_eq, not_true_eq_false, not_false_eq_true, if_true, if_false, ite_true, ite_false, caln_v, caln_r, caln_x, Int.reduceEq, Int.reduceNe, Int.reduceLT, Int.reduceLE, Int.reduceAdd, Int.reduceMul, Int.reduceSub, Int.le_refl, b184_84, zu2_row, rowU, Nat.reduceEqDiff, ↓reduceIte]
    · rintro k ⟨v, w⟩ hk0 hk1 _
      have hk : ¬ 120 ≤ k := by omega
      have hr := N (120 * to + k)
      refine ⟨(.inl (120 * s + k), .inl (I 121 (120 * to + k))), ?_, trivial⟩
      rw [b184_31]
      simp only [hk, if_false]
      rw [b184_34 (by omega) (by omega) L (by omega) (by omega) (by omega) (by simp only [rowU, Nat.reduceEqDiff, ↓reduceIte]; omega) (by omega) (by simp only [rowU, Nat.reduceEqDiff, ↓reduceIte]; omega)]
      have hst : ∀ (q : Int → Int) (c : Int → Int) (v : Int), v = c (120 * to + k) → up1 (fillR q (120 * s) (120 * s + k) (fun j => c (120 * to + (j - 120 * s)))) (120 * s + k) v = fillR q (120 * s) (120 * s + (k + 1)) (fun j => c (120 * to + (j - 120 * s))) := by
        intro q c v hv
        rw [fillR_s (by omega), Int.add_assoc]
        rw [hv]
        congr 1
        omega
      have h1 := hst (I 118) (fun j => I 121 j / 4) _ rfl
      have h2 := hst (I 116) (fun j => b01 (I 121 j / 2 % 2 = 1)) _ rfl
      have h3 := hst (I 117) (fun j => b01 (I 121 j % 2 = 1)) _ rfl
      by_cases c2 : I 121 (120 * to + k) / 2 % 2 = 1
      · by_cases c3 : I 121 (120 * to + k) % 2 = 1
        · rw [b01_t c2] at h2
          rw [b01_t c3] at h3
          simp (disch := first | assumption | exact b01_or _ | (simp (decide := true) only [WB_U, WK_U, WL_U]; assumption) | omega | (simp only [rowU, Nat.reduceEqDiff, ↓reduceIte]; omega)) only [ne_eq, not_true_eq_false, not_false_eq_true, if_true, if_false, ite_true, ite_false, caln_v, caln_r, caln_x, Int.reduceEq, Int.reduceNe, Int.reduceLT, Int.reduceLE, Int.reduceAdd, Int.reduceMul, Int.reduceSub, b184_0, b184_11, b184_29, b184_34, b184_66, b184_68, b184_69, b184_78, b184_80, b184_81, b184_84, rowU, Nat.reduceEqDiff, ↓reduceIte, c2, c3, zu2_row, rowU_k3, h1, h2, h3]
        · rw [b01_t c2] at h2
          rw [b01_f c3] at h3
          simp (disch := first | assumption | exact b01_or _ | (simp (decide := true) only [WB_U, WK_U, WL_U]; assumption) | omega | (simp only [rowU, Nat.reduceEqDiff, ↓reduceIte]; omega)) only [ne_eq, not_true_eq_false, not_false_eq_true, if_true, if_false, ite_true, ite_false, caln_v, caln_r, caln_x, Int.reduceEq, Int.reduceNe, Int.reduceLT, Int.reduceLE, Int.reduceAdd, Int.reduceMul, Int.reduceSub, b184_0, b184_11, b184_29, b184_34, b184_66, b184_68, b184_69, b184_78, b184_80, b184_81, b184_84, rowU, Nat.reduceEqDiff, ↓reduceIte, c2, c3, zu2_row, rowU_k3, h1, h2, h3]
      · by_cases c3 : I 121 (120 * to + k) % 2 = 1
        · rw [b01_f c2] at h2
          rw [b01_t c3] at h3
          simp (disch := first | assumption | exact b01_or _ | (simp (decide := true) only [WB_U, WK_U, WL_U]; assumption) | omega | (simp only [rowU, Nat.reduceEqDiff, ↓reduceIte]; omega)) only [ne_eq, not_true_eq_false, not_false_eq_true, if_true, if_false, ite_true, ite_false, caln_v, caln_r, caln_x, Int.reduceEq, Int.reduceNe, Int.reduceLT, Int.reduceLE, Int.reduceAdd, Int.reduceMul, Int.reduceSub, b184_0, b184_11, b184_29, b184_34, b184_66, b184_68, b184_69, b184_78, b184_80, b184_81, b184_84, rowU, Nat.reduceEqDiff, ↓reduceIte, c2, c3, zu2_row, rowU_k3, h1, h2, h3]
        · rw [b01_f c2] at h2
          rw [b01_f c3] at h3
          simp (disch := first | assumption | exact b01_or _ | (simp (decide := true) only [WB_U, WK_U, WL_U]; assumption) | omega | (simp only [rowU, Nat.reduceEqDiff, ↓reduceIte]; omega)) only [ne_eq, not_true_eq_false, not_false_eq_true, if_true, if_false, ite_true, ite_false, caln_v, caln_r, caln_x, Int.reduceEq, Int.reduceNe, Int.reduceLT, Int.reduceLE, Int.reduceAdd, Int.reduceMul, Int.reduceSub, b184_0, b184_11, b184_29, b184_34, b184_66, b184_68, b184_69, b184_78, b184_80, b184_81, b184_84, rowU, Nat.reduceEqDiff, ↓reduceIte, c2, c3, zu2_row, rowU_k3, h1, h2, h3]
  · intro k h0 h1
    have hk : ¬ 6 ≤ k := by omega
    rw [b184_8]
    simp (disch := first | assumption | exact b01_or _ | (simp (decide := true) only [WB_U, WK_U, WL_U]; assumption) | omega | (simp only [rowU, Nat.reduceEqDiff, ↓reduceIte]; omega)) only [ne_eq, not_true_eq_false, not_false_eq_true, if_true, if_false, ite_true, ite_false, caln_v, caln_r, caln_x, Int.reduceEq, Int.reduceNe, Int.reduceLT, Int.reduceLE, Int.reduceAdd, Int.reduceMul, Int.reduceSub, hk]
    rw [b184_11 L (by omega) (by omega) (by omega) (by omega) (by omega) (by omega) (by omega)]
    simp only [rowU, Nat.reduceEqDiff, ↓reduceIte, zu2_row, rowU_tw]
    rw [fillR_s (by omega) (by congr 1; omega), Int.add_assoc]
theorem rowU_k2 {X : Nat → Int → Int} {a b : Nat} {f g f1 g1 : Int → Int} : rowU (rowU (rowU (rowU X a f) b g) a f1) b g1 = rowU (rowU X a f1) b g1 := by
  funext i
  unfold rowU
  by_cases h2 : i = b
  · simp only [h2, if_true]
  · by_cases h3 : i = a
    · simp only [h2, h3, if_true, if_false]
    · simp only [h2, h3, if_false]
noncomputable def s2 (I : Nat → Int → Int) (s : Int) : Int → Int := fillR (I 102) (120 * s) (120 * s + I 94 0) (fun j => b01 (0 < I 101 j))
noncomputable def s3 (I : Nat → Int → Int) (s : Int) : Int → Int := fillR (I 103) (120 * s) (120 * s + I 94 0) (fun j => b01 (0 < I 101 j ∧ BL I s (j - 120 * s)))
noncomputable def s1 (I : Nat → Int → Int) (s : Int) : Int → Int := fillR (I 101) (120 * s) (120 * s + 120) (fun j => if s2 I s j = 0 then 0 else 1)
noncomputable def sJ (I : Nat → Int → Int) (s : Int) : Nat → Int → Int :=
  rowU (rowU (rowU (rowU I 102 (s2 I s)) 103 (s3 I s)) 101 (s1 I s)) 110 (fillR (I 110) (20 * s) (20 * s + 20) (I 109))
noncomputable def sY (I : Nat → Int → Int) (s : Int) : Nat → Int → Int := rowU (kN (sJ I s) s 0) 104 (up1 (I 104) s 0)
theorem r185 {h : HP} {I : Nat → Int → Int} {s : Int} {v2 v3 v4 : MV} (L : LX 11 h 94) (ht : 0 ≤ I 94 0 ∧ I 94 0 ≤ 120) (E : WL I) (N : WN I) (hP : ∀ j, I 109 j = 0 ∨ I 109 j = 1) (hs : s = 0 ∨ s = 1) :
    Go 185 0 [.inr (.inl (some 94)), .inl s, v2, v3, v4] [] (mI h I) = some (mI h (sY I s), .inl (some (.inl (I 104 s)))) := by
  rw [b185_0 L (by omega)]
  have key1 := lpE (fun k (v : MV) => Go 185 7 [.inr (.inl (some 94)), .inl s, .inl (I 104 s), .inl k, v] [] (mI h (rowU (rowU I 102 (fillR (I 102) (120 * s) (120 * s + k) (fun j => b01 (0 < I 101 j))))
    103 (fillR (I 103) (120 * s) (120 * s + k) (fun j => b01 (0 < I 101 j ∧ BL I s (j - 120 * s))))))) (fun _ _ => True) 0 (I 94 0) ht.1 ?_ v4 trivial
  · obtain ⟨v, e, -⟩ := key1
    rw [fillR_0 (by omega), fillR_0 (by omega)] at e
    rw [show rowU (rowU I 102 (I 102)) 103 (I 103) = I by rw [rowU_id, rowU_id]] at e
    rw [e, b185_7 L]
    simp (disch := first | assumption | exact b01_or _ | (simp (decide := true) only [WB_U, WK_U, WL_U]; assumption) | omega | (simp only [rowU, Nat.reduceEqDiff, ↓reduceIte]; omega)) only [ne_eq, not_true_eq_false, not_false_eq_true, if_true, if_false, ite_true, ite_false, caln_v, caln_r, caln_x, Int.reduceEq, Int.reduceNe, Int.reduceLT, Int.reduceLE, Int.reduceAdd, Int.reduceMul, Int.reduceSub, rowU, Nat.reduceEqDiff, ↓reduceIte, Int.le_refl, b185_48]
    rw [show fillR (I 102) (120 * s) (120 * s + I 94 0) (fun j => b01 (0 < I 101 j)) = s2 I s from rfl, show fillR (I 103) (120 * s) (120 * s + I 94 0) (fun j => b01 (0 < I 101 j ∧ BL I s (j - 120 * s))) = s3 I s from rfl]
    have key2 := lpU (fun k => Go 185 52 [.inr (.inl (some 94)), .inl s, .inl (I 104 s), .inl k, v] [] (mI h (rowU (rowU (rowU I 102 (s2 I s)) 103 (s3 I s)) 101 (fillR (I 101) (120 * s) k (fun j => if s2 I s j = 0 then 0 else 1))))) (120 * s) (120 * s + 120) (by omega) ?_
    · rw [fillR_0 (by omega)] at key2
      have e1 : rowU (rowU (rowU I 102 (s2 I s)) 103 (s3 I s)) 101 (I 101) = rowU (rowU I 102 (s2 I s)) 103 (s3 I s) := by
        have := rowU_id (rowU (rowU I 102 (s2 I s)) 103 (s3 I s)) 101
        rwa [rowU_ne (by decide), rowU_ne (by decide)] at this
      rw [e1] at key2
      rw [key2, b185_52 (by omega) (by omega)]
      simp (disch := first | assumption | exact b01_or _ | (simp (decide := true) only [WB_U, WK_U, WL_U]; assumption) | omega | (simp only [rowU, Nat.reduceEqDiff, ↓reduceIte]; omega)) only [ne_eq, not_true_eq_false, not_false_eq_true, if_true, if_false, ite_true, ite_false, caln_v, caln_r, caln_x, Int.reduceEq, Int.reduceNe, Int.reduceLT, Int.reduceLE, Int.reduceAdd, Int.reduceMul, Int.reduceSub, Int.le_refl, b185_73]
      rw [show fillR (I 101) (120 * s) (120 * s + 120) (fun j => if s2 I s j = 0 then 0 else 1) = s1 I s from rfl]
      have key3 := lpU (fun k => Go 185 77 [.inr (.inl (some 94)), .inl s, .inl (I 104 s), .inl k, v] [] (mI h (rowU (rowU (rowU (rowU I 102 (s2 I s)) 103 (s3 I s)) 101 (s1 I s)) 110 (fillR (I 110) (20 * s) k (I 109))))) (20 * s) (20 * s + 20) (by omega) ?_
      · rw [fillR_0 (by omega)] at key3
        have e2 : rowU (rowU (rowU (rowU I 102 (s2 I s)) 103 (s3 I s)) 101 (s1 I s)) 110 (I 110) = rowU (rowU (rowU I 102 (s2 I s)) 103 (s3 I s)) 101 (s1 I s) := by
          have := rowU_id (rowU (rowU (rowU I 102 (s2 I s)) 103 (s3 I s)) 101 (s1 I s)) 110
          rwa [rowU_ne (by decide), rowU_ne (by decide), rowU_ne (by decide)] at this
        rw [e2] at key3
        rw [key3, b185_77 (by omega) (by omega)]
        simp (disch := first | assumption | exact b01_or _ | (simp (decide := true) only [WB_U, WK_U, WL_U]; assumption) | omega | (simp only [rowU, Nat.reduceEqDiff, ↓reduceIte]; omega)) only [ne_eq, not_true_eq_false, not_false_eq_true, if_true, if_false, ite_true, ite_false, caln_v, caln_r, caln_x, Int.reduceEq, Int.reduceNe, Int.reduceLT, Int.reduceLE, Int.reduceAdd, Int.reduceMul, Int.reduceSub, Int.le_refl, b185_94]
        rw [show rowU (rowU (rowU (rowU I 102 (s2 I s)) 103 (s3 I s)) 101 (s1 I s)) 110 (fillR (I 110) (20 * s) (20 * s + 20) (I 109)) = sJ I s from rfl]
        have N2 : WN (sJ I s) := N
        rw [r183 L N2 hs (by omega)]
        simp (disch := first | assumption | exact b01_or _ | (simp (decide := true) only [WB_U, WK_U, WL_U]; assumption) | omega | (simp only [rowU, Nat.reduceEqDiff, ↓reduceIte]; omega)) only [ne_eq, not_true_eq_false, not_false_eq_true, if_true, if_false, ite_true, ite_false, caln_v, caln_r, caln_x, Int.reduceEq, Int.reduceNe, Int.reduceLT, Int.reduceLE, Int.reduceAdd, Int.reduceMul, Int.reduceSub, b185_98, zu2_row]
        rfl
      · intro k h0 h1
        have hk : ¬ 20 * s + 20 ≤ k := by omega
        rw [b185_77 (by omega) (by omega)]
        simp only [hk, if_false]
        rw [b185_84 L (by omega) (by simp only [rowU, Nat.reduceEqDiff, ↓reduceIte]; exact hP k) (by omega), zu2_row]
        simp only [rowU, Nat.reduceEqDiff, ↓reduceIte, rowU_tw]
        rw [fillR_s h0 rfl]
    · intro k h0 h1
      have hk : ¬ 120 * s + 120 ≤ k := by omega
      rw [b185_52 (by omega) (by omega)]
      simp only [hk, if_false]
      rw [b185_59 L (by omega)]
      by_cases hc : s2 I s k = 0
      · simp (disch := first | assumption | exact b01_or _ | (simp (decide := true) only [WB_U, WK_U, WL_U]; assumption) | omega | (simp only [rowU, Nat.reduceEqDiff, ↓reduceIte]; omega)) only [ne_eq, not_true_eq_false, not_false_eq_true, if_true, if_false, ite_true, ite_false, caln_v, caln_r, caln_x, Int.reduceEq, Int.reduceNe, Int.reduceLT, Int.reduceLE, Int.reduceAdd, Int.reduceMul, Int.reduceSub, rowU, Nat.reduceEqDiff, ↓reduceIte, hc, b185_69, b185_70, zu2_row, rowU_tw]
        rw [fillR_s h0 (by rw [if_pos hc])]
      · simp (disch := first | assumption | exact b01_or _ | (simp (decide := true) only [WB_U, WK_U, WL_U]; assumption) | omega | (simp only [rowU, Nat.reduceEqDiff, ↓reduceIte]; omega)) only [ne_eq, not_true_eq_false, not_false_eq_true, if_true, if_false, ite_true, ite_false, caln_v, caln_r, caln_x, Int.reduceEq, Int.reduceNe, Int.reduceLT, Int.reduceLE, Int.reduceAdd, Int.reduceMul, Int.reduceSub, rowU, Nat.reduceEqDiff, ↓reduceIte, hc, b185_67, b185_70, zu2_row, rowU_tw]
        rw [fillR_s h0 (by rw [if_neg hc])]
  · intro k v h0 h1 _
    have hk : ¬ I 94 0 ≤ k := by omega
    have hst : ∀ (q c : Int → Int) (v : Int), v = c (120 * s + k) → up1 (fillR q (120 * s) (120 * s + k) c) (120 * s + k) v = fillR q (120 * s) (120 * s + (k + 1)) c := by
      intro q c v hv
      rw [fillR_s (by omega) hv, Int.add_assoc]
    have hst2 := hst (I 102) (fun j => b01 (0 < I 101 j)) _ rfl
    have hst3 := hst (I 103) (fun j => b01 (0 < I 101 j ∧ BL I s (j - 120 * s))) _ rfl
    rw [show 120 * s + k - 120 * s = k by omega] at hst3
    refine ⟨.inl (120 * s + k), ?_, trivial⟩
    rw [b185_7 L]
    simp only [rowU, Nat.reduceEqDiff, ↓reduceIte, hk]
    rw [b185_11 (by omega) (by omega) L (by omega)]
    by_cases hc : I 101 (120 * s + k) ≤ 0
    · have hc2 : ¬ 0 < I 101 (120 * s + k) := by omega
      rw [b01_f hc2] at hst2
      rw [b01_f (fun q => hc2 q.1)] at hst3
      simp (disch := first | assumption | exact b01_or _ | (simp (decide := true) only [WB_U, WK_U, WL_U]; assumption) | omega | (simp only [rowU, Nat.reduceEqDiff, ↓reduceIte]; omega)) only [ne_eq, not_true_eq_false, not_false_eq_true, if_true, if_false, ite_true, ite_false, caln_v, caln_r, caln_x, Int.reduceEq, Int.reduceNe, Int.reduceLT, Int.reduceLE, Int.reduceAdd, Int.reduceMul, Int.reduceSub, rowU, Nat.reduceEqDiff, ↓reduceIte, hc, b185_27, b185_28, b185_44, b185_45, zu2_row, up1_eq, rowU_k2, hst2, hst3]
    · have hc2 : 0 < I 101 (120 * s + k) := by omega
      rw [b01_t hc2] at hst2
      simp (disch := first | assumption | exact b01_or _ | (simp (decide := true) only [WB_U, WK_U, WL_U]; assumption) | omega | (simp only [rowU, Nat.reduceEqDiff, ↓reduceIte]; omega)) only [ne_eq, not_true_eq_false, not_false_eq_true, if_true, if_false, ite_true, ite_false, caln_v, caln_r, caln_x, Int.reduceEq, Int.reduceNe, Int.reduceLT, Int.reduceLE, Int.reduceAdd, Int.reduceMul, Int.reduceSub, rowU, Nat.reduceEqDiff, ↓reduceIte, hc, b185_25, b185_28, b185_37, zu2_row, up1_eq, hst2]
      have hE : ∀ f f2 : Int → Int, WL (rowU (rowU (rowU I 102 f) 103 (fillR (I 103) (120 * s) (120 * s + k) (fun j => b01 (0 < I 101 j ∧ BL I s (j - 120 * s))))) 102 f2) := by
        intro f f2
        refine ⟨fun j => ?_, fun j => ?_, fun j => ?_⟩
        · simp only [rowU, Nat.reduceEqDiff, ↓reduceIte]
          unfold fillR
          split
          · exact b01_or _
          · exact E.1 j
        · simp only [rowU, Nat.reduceEqDiff, ↓reduceIte]; exact E.2.1 j
        · simp only [rowU, Nat.reduceEqDiff, ↓reduceIte]; exact E.2.2 j
      have hBL : ∀ f f2 : Int → Int, BL (rowU (rowU (rowU I 102 f) 103 (fillR (I 103) (120 * s) (120 * s + k) (fun j => b01 (0 < I 101 j ∧ BL I s (j - 120 * s))))) 102 f2) s k = BL I s k := by
        intro f f2
        unfold BL
        simp only [rowU, Nat.reduceEqDiff, ↓reduceIte]
        rw [fillR_out (by omega)]
      rw [r176 L (hE _ _) hs (by omega) (by simp only [rowU, Nat.reduceEqDiff, ↓reduceIte]; exact hc2), hBL]
      by_cases hb : BL I s k
      · rw [b01_t ⟨hc2, hb⟩] at hst3
        simp (disch := first | assumption | exact b01_or _ | (simp (decide := true) only [WB_U, WK_U, WL_U]; assumption) | omega | (simp only [rowU, Nat.reduceEqDiff, ↓reduceIte]; omega)) only [ne_eq, not_true_eq_false, not_false_eq_true, if_true, if_false, ite_true, ite_false, caln_v, caln_r, caln_x, Int.reduceEq, Int.reduceNe, Int.reduceLT, Int.reduceLE, Int.reduceAdd, Int.reduceMul, Int.reduceSub, rowU, Nat.reduceEqDiff, ↓reduceIte, b01_t hb, b185_41, b185_42, b185_45, zu2_row, hst3, rowU_k2]
      · rw [b01_f (fun q => hb q.2)] at hst3
        simp (disch := first | assumption | exact b01_or _ | (simp (decide := true) only [WB_U, WK_U, WL_U]; assumption) | omega | (simp only [rowU, Nat.reduceEqDiff, ↓reduceIte]; omega)) only [ne_eq, not_true_eq_false, not_false_eq_true, if_true, if_false, ite_true, ite_false, caln_v, caln_r, caln_x, Int.reduceEq, Int.reduceNe, Int.reduceLT, Int.reduceLE, Int.reduceAdd, Int.reduceMul, Int.reduceSub, rowU, Nat.reduceEqDiff, ↓reduceIte, b01_f hb, b185_41, b185_44, b185_45, zu2_row, hst3, rowU_k2]
