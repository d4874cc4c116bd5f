/-! ===== the reference's methods (8): version, tag ===== -/
def sw (I : Nat → Int → Int) : Nat → Int → Int := rowU (rowU I 99 (fillR (I 99) 0 12 (I 100))) 100 (fillR (I 100) 0 12 (I 99))
def bJ (I : Nat → Int → Int) (n : Int) : Nat → Int → Int := rowU (sw I) 94 (up1 (I 94) 5 n)
def rs (M : Nat → Int → Int) (d : Int) : Nat → Int → Int := rowU (rowU M 99 (fillR (M 99) 0 12 (M 100))) 94 (up1 (M 94) 5 d)
noncomputable def tB (h : HP) (I : Nat → Int → Int) (s c n : Int) : Option (HP × OUT) :=
  if sm (bJ I n) c < 0 ∧ bJ I n 94 0 = 100 then some (mI h (rs (tH (bJ I n) 3) (I 94 5)), .inl (some (.inl 0))) else some (mI h (rs (tW (bJ I n) s c) (I 94 5)), .inl (some (.inl (tJ (bJ I n) c 98 (tO (bJ I n) c)))))
theorem WT_b {I : Nat → Int → Int} {n : Int} (W : WT I) : WT (bJ I n) := by
  have e0 : bJ I n 94 0 = I 94 0 := by
    unfold bJ
    rw [rowU_eq, up1_ne (by decide)]
  have e : ∀ a, a ≠ 94 → a ≠ 99 → a ≠ 100 → bJ I n a = I a := fun a h1 h2 h3 => by
    unfold bJ sw
    rw [rowU_ne h1, rowU_ne h3, rowU_ne h2]
  unfold WT
  rw [WB_e e0 (e 95 (by decide) (by decide) (by decide)) (e 96 (by decide) (by decide) (by decide)) (e 97 (by decide) (by decide) (by decide)) (e 98 (by decide) (by decide) (by decide)), WK_e e0 (e 108 (by decide) (by decide) (by decide)) (e 111 (by decide) (by decide) (by decide)) (e 112 (by decide) (by decide) (by decide)) (e 113 (by decide) (by decide) (by decide))]
  exact W
theorem r197 {h : HP} {I : Nat → Int → Int} {s c n : Int} {v4 v5 v6 : MV} (L : LX 11 h 94) (W : WT I) (hs : s = 0 ∨ s = 1) (hc : 0 ≤ c ∧ c ≤ 3) (hn : 0 ≤ n ∧ n ≤ 12) (hb : ∀ j, 0 ≤ j → j < n → 0 ≤ I 100 j ∧ I 100 j ≤ 9999) :
    Go 197 0 [.inr (.inl (some 94)), .inl s, .inl c, .inl n, v4, v5, v6] [] (mI h I) = tB h I s c n := by
  rw [b197_0 L]
  have key1 := lpE (fun k (v : MV) => Go 197 5 [.inr (.inl (some 94)), .inl s, .inl c, .inl n, .inl (I 94 5), .inl k, v] [] (mI h (rowU (rowU I 99 (fillR (I 99) 0 k (I 100))) 100 (fillR (I 100) 0 k (I 99))))) (fun _ _ => True) 0 12 (by omega) ?_ v6 trivial
  · obtain ⟨v, e, -⟩ := key1
    rw [fillR_0 (by omega), fillR_0 (by omega), show rowU (rowU I 99 (I 99)) 100 (I 100) = I by rw [rowU_id, rowU_id]] at e
    rw [e, b197_5, if_pos (by decide), b197_28 L, zu2_row]
    rw [show rowU (rowU (rowU I 99 (fillR (I 99) 0 12 (I 100))) 100 (fillR (I 100) 0 12 (I 99))) 94 (up1 (rowU (rowU I 99 (fillR (I 99) 0 12 (I 100))) 100 (fillR (I 100) 0 12 (I 99)) 94) 5 n) = bJ I n from rfl]
    have D : WD (bJ I n) := by
      have e5 : bJ I n 94 5 = n := by unfold bJ; rw [rowU_eq, up1_eq]
      refine ⟨by rw [e5]; exact hn, fun j a b => ?_⟩
      rw [e5] at b
      have : bJ I n 99 j = I 100 j := by
        show fillR (I 99) 0 12 (I 100) j = _
        rw [fillR_in (by omega)]
      rw [this]
      exact hb j a b
    rw [r192' L (WT_b W) D hs hc]
    have fin : ∀ (M : Nat → Int → Int) (x : Int), caln 197 [.inr (.inl (some 94)), .inl s, .inl c, .inl n, .inl (I 94 5), .inl 12, v] [] 35 (some (mI h M, .inl (some (.inl x)))) = some (mI h (rs M (I 94 5)), .inl (some (.inl x))) := by
      intro M x
      rw [caln_r, b197_35]
      have key2 := lpU (fun k => Go 197 38 [.inr (.inl (some 94)), .inl s, .inl c, .inl n, .inl (I 94 5), .inl x, .inl k] [] (mI h (rowU M 99 (fillR (M 99) 0 k (M 100))))) 0 12 (by omega) ?_
      · rw [fillR_0 (by omega), rowU_id] at key2
        rw [key2, b197_38, if_pos (by decide), b197_51 L, zu2_row]
        rfl
      · intro k h0 h1
        rw [b197_38, if_neg (by omega), b197_41 L (by omega) (by omega), zu2_row, rowU_tw]
        simp only [rowU, Nat.reduceEqDiff, ↓reduceIte]
        rw [fillR_s h0 rfl]
    unfold tR tB
    split
    · exact fin _ _
    · exact fin _ _
  · intro k v h0 h1 _
    refine ⟨.inl (fillR (I 99) 0 k (I 100) k), ?_, trivial⟩
    rw [b197_5, if_neg (by omega), b197_8 L (by omega) (by omega)]
    simp only [zu2_row, rowU, Nat.reduceEqDiff, ↓reduceIte]
    have o1 : fillR (I 99) 0 k (I 100) k = I 99 k := fillR_out (by omega)
    have o2 : fillR (I 100) 0 k (I 99) k = I 100 k := fillR_out (by omega)
    rw [o1, o2, rowU_k2, fillR_s h0 rfl, fillR_s h0 rfl]
theorem r198 {h : HP} {I : Nat → Int → Int} {s x : Int} (L : LX 11 h 94) (W : WB I) (K : WK I) (hs : s = 0 ∨ s = 1) (hx : 0 ≤ fnd I x) : Go 198 0 [.inr (.inl (some 94)), .inl s, .inl x] [] (mI h I) = some (mI h I, .inl (some (.inl (b01 (Th I s (fnd I x)))))) := by
  have ht := WB_t W
  have hf := fnd_lt (I := I) (x := x) ht.1
  rw [b198_0 L, r165 L ht, caln_r, b198_5 L, r179 L K hs (by omega), caln_r, b198_6 (b01_or _)]
def kI (I : Nat → Int → Int) (x c : Int) : Prop := 0 ≤ fnd I x ∧ I 95 (fnd I x) = c
def v1 (I : Nat → Int → Int) (s f one oth : Int) : Prop := (s = 0 ∨ s = 1) ∧ 0 ≤ fnd I f ∧ (one = -1 ∨ 0 ≤ fnd I one) ∧ (oth = -1 ∨ 0 ≤ fnd I oth)
def v2 (I : Nat → Int → Int) (f date one oth : Int) : Prop := (kI I f 1 ∧ (0 ≤ date ∧ date ≤ 9999) ∧ (one = -1 → oth = -1) ∧ (one ≠ -1 → kI I one 2 ∧ one ≠ oth)) ∧ (oth = -1 ∨ kI I oth 2)
def v3 (I : Nat → Int → Int) (s f one oth : Int) : Prop := Th I s (fnd I f) ∧ (one = -1 ∨ Th I s (fnd I one)) ∧ (oth = -1 ∨ Th I s (fnd I oth))
theorem neg1_ne : ¬((1 : Int) = 0) := by decide
theorem r199a {h : HP} {I : Nat → Int → Int} {s f d one oth : Int} {w6 w7 : MV} (L : LX 11 h 94) (ht : 0 ≤ I 94 0 ∧ I 94 0 ≤ 120) :
    Go 199 0 [.inr (.inl (some 94)), .inl s, .inl f, .inl d, .inl one, .inl oth, w6, w7] [] (mI h I) = @ite _ (v1 I s f one oth) (Classical.propDecidable _) (Go 199 25 [.inr (.inl (some 94)), .inl s, .inl f, .inl d, .inl one, .inl oth, w6, w7] [] (mI h (tH I 0))) (some (mI h (tH I 1), .inl (some (.inl 0)))) := by
  have bad : Go 199 18 [.inr (.inl (some 94)), .inl s, .inl f, .inl d, .inl one, .inl oth, w6, w7] [.inr (.inl (some 94))] (mI h I) = some (mI h (tH I 1), .inl (some (.inl 0))) := by
    rw [b199_18, b199_19 L, zu2_tI, tH_49, if_neg (by decide), b199_23]
  by_cases hs : s = 0 ∨ s = 1
  · by_cases hf : 0 ≤ fnd I f
    · by_cases h1 : one = -1 ∨ 0 ≤ fnd I one
      · by_cases h2 : oth = -1 ∨ 0 ≤ fnd I oth
        · rw [if_pos (show v1 I s f one oth from ⟨hs, hf, h1, h2⟩)]
          simp (disch := first | assumption | exact b01_or _ | (simp (decide := true) only [WB_U, WK_U, WL_U]; assumption) | omega | (simp only [rowU, Nat.reduceEqDiff, ↓reduceIte]; omega)) only [ne_eq, not_true_eq_false, not_false_eq_true, if_true, if_false, ite_true, ite_false, caln_v, caln_r, caln_x, Int.reduceEq, Int.reduceNe, Int.reduceLT, Int.reduceLE, Int.reduceAdd, Int.reduceMul, Int.reduceSub, b199_0, r164, b01_t hs, b199_3, b199_4, r166, b01_t hf, b199_7, b199_8, r167, b01_t h1, b199_11, b199_12, b01_t h2, b199_15, b199_16]
          rw [b199_19 L, zu2_tI, tH_49, if_pos (by decide)]
        · rw [if_neg (show ¬ v1 I s f one oth from fun q => h2 q.2.2.2)]
          simp (disch := first | assumption | exact b01_or _ | (simp (decide := true) only [WB_U, WK_U, WL_U]; assumption) | omega | (simp only [rowU, Nat.reduceEqDiff, ↓reduceIte]; omega)) only [ne_eq, not_true_eq_false, not_false_eq_true, if_true, if_false, ite_true, ite_false, caln_v, caln_r, caln_x, Int.reduceEq, Int.reduceNe, Int.reduceLT, Int.reduceLE, Int.reduceAdd, Int.reduceMul, Int.reduceSub, b199_0, r164, b01_t hs, b199_3, b199_4, r166, b01_t hf, b199_7, b199_8, r167, b01_t h1, b199_11, b199_12, b01_f h2, b199_15, bad]
      · rw [if_neg (show ¬ v1 I s f one oth from fun q => h1 q.2.2.1)]
        simp (disch := first | assumption | exact b01_or _ | (simp (decide := true) only [WB_U, WK_U, WL_U]; assumption) | omega | (simp only [rowU, Nat.reduceEqDiff, ↓reduceIte]; omega)) only [ne_eq, not_true_eq_false, not_false_eq_true, if_true, if_false, ite_true, ite_false, caln_v, caln_r, caln_x, Int.reduceEq, Int.reduceNe, Int.reduceLT, Int.reduceLE, Int.reduceAdd, Int.reduceMul, Int.reduceSub, b199_0, r164, b01_t hs, b199_3, b199_4, r166, b01_t hf, b199_7, b199_8, r167, b01_f h1, b199_11, bad]
    · rw [if_neg (show ¬ v1 I s f one oth from fun q => hf q.2.1)]
      simp (disch := first | assumption | exact b01_or _ | (simp (decide := true) only [WB_U, WK_U, WL_U]; assumption) | omega | (simp only [rowU, Nat.reduceEqDiff, ↓reduceIte]; omega)) only [ne_eq, not_true_eq_false, not_false_eq_true, if_true, if_false, ite_true, ite_false, caln_v, caln_r, caln_x, Int.reduceEq, Int.reduceNe, Int.reduceLT, Int.reduceLE, Int.reduceAdd, Int.reduceMul, Int.reduceSub, b199_0, r164, b01_t hs, b199_3, b199_4, r166, b01_f hf, b199_7, bad]
  · rw [if_neg (show ¬ v1 I s f one oth from fun q => hs q.1)]
    simp (disch := first | assumption | exact b01_or _ | (simp (decide := true) only [WB_U, WK_U, WL_U]; assumption) | omega | (simp only [rowU, Nat.reduceEqDiff, ↓reduceIte]; omega)) only [ne_eq, not_true_eq_false, not_false_eq_true, if_true, if_false, ite_true, ite_false, caln_v, caln_r, caln_x, Int.reduceEq, Int.reduceNe, Int.reduceLT, Int.reduceLE, Int.reduceAdd, Int.reduceMul, Int.reduceSub, b199_0, r164, b01_f hs, b199_3, bad]
theorem r199b {h : HP} {I : Nat → Int → Int} {s f d one oth : Int} {w6 w7 : MV} (L : LX 11 h 94) (ht : 0 ≤ I 94 0 ∧ I 94 0 ≤ 120) :
    ∃ z, Go 199 25 [.inr (.inl (some 94)), .inl s, .inl f, .inl d, .inl one, .inl oth, w6, w7] [] (mI h I) = @ite _ (v2 I f d one oth) (Classical.propDecidable _) (Go 199 74 [.inr (.inl (some 94)), .inl s, .inl f, .inl d, .inl one, .inl oth, .inl z, w7] [] (mI h (tH I 0))) (some (mI h (tH I 2), .inl (some (.inl 0)))) := by
  have bad : ∀ z, Go 199 65 [.inr (.inl (some 94)), .inl s, .inl f, .inl d, .inl one, .inl oth, .inl z, w7] [.inr (.inl (some 94))] (mI h I) = some (mI h (tH I 2), .inl (some (.inl 0))) := by
    intro z
    rw [b199_65, b199_68 L, zu2_tI, tH_49, if_neg (by decide), b199_72]
  have bad0 : Go 199 52 [.inr (.inl (some 94)), .inl s, .inl f, .inl d, .inl one, .inl oth, w6, w7] [] (mI h I) = some (mI h (tH I 2), .inl (some (.inl 0))) := by
    rw [b199_52, b199_53, if_pos rfl, bad]
  have good : (v2 I f d one oth ↔ (oth = -1 ∨ kI I oth 2)) → ∃ z, Go 199 50 [.inr (.inl (some 94)), .inl s, .inl f, .inl d, .inl one, .inl oth, w6, w7] [] (mI h I) = @ite _ (v2 I f d one oth) (Classical.propDecidable _) (Go 199 74 [.inr (.inl (some 94)), .inl s, .inl f, .inl d, .inl one, .inl oth, .inl z, w7] [] (mI h (tH I 0))) (some (mI h (tH I 2), .inl (some (.inl 0)))) := by
    intro hv
    refine ⟨1, ?_⟩
    rw [b199_50, b199_53, if_neg neg1_ne, b199_57]
    have ok : Go 199 67 [.inr (.inl (some 94)), .inl s, .inl f, .inl d, .inl one, .inl oth, .inl 1, w7] [.inr (.inl (some 94))] (mI h I) = Go 199 74 [.inr (.inl (some 94)), .inl s, .inl f, .inl d, .inl one, .inl oth, .inl 1, w7] [] (mI h (tH I 0)) := by
      rw [b199_67, b199_68 L, zu2_tI, tH_49, if_pos (by decide)]
    by_cases q1 : oth = -1
    · rw [if_pos q1, if_pos (hv.mpr (Or.inl q1)), ok]
    · rw [if_neg q1, b199_60 L, r168 L ht, caln_r, b199_64]
      by_cases q2 : kI I oth 2
      · rw [if_pos (hv.mpr (Or.inr q2)), b01_t (show 0 ≤ fnd I oth ∧ I 95 (fnd I oth) = 2 from q2), if_pos neg1_ne, ok]
      · rw [if_neg (fun q => (hv.mp q).elim q1 q2), b01_f (show ¬(0 ≤ fnd I oth ∧ I 95 (fnd I oth) = 2) from q2), if_neg (fun q => q rfl), bad]
  rw [b199_25 L, r168 L ht, caln_r, b199_29]
  by_cases q1 : kI I f 1
  · rw [b01_t (show 0 ≤ fnd I f ∧ I 95 (fnd I f) = 1 from q1), if_neg neg1_ne, b199_30, r163, caln_r, b199_34]
    by_cases q2 : 0 ≤ d ∧ d ≤ 9999
    · rw [b01_t q2, if_neg neg1_ne, b199_35]
      by_cases q3 : one = -1
      · rw [if_neg (fun q => q q3), b199_38]
        by_cases q4 : oth = -1
        · rw [if_neg (fun q => q q4), b199_41]
          exact good ⟨fun q => q.2, fun q => ⟨⟨q1, q2, fun _ => q4, fun q => absurd q3 q⟩, q⟩⟩
        · rw [if_pos q4, bad0]
          exact ⟨0, (if_neg (fun q => q4 (q.1.2.2.1 q3))).symm⟩
      · rw [if_pos q3, b199_42 L, r168 L ht, caln_r, b199_46]
        by_cases q4 : kI I one 2
        · rw [b01_t (show 0 ≤ fnd I one ∧ I 95 (fnd I one) = 2 from q4), if_neg neg1_ne, b199_47]
          by_cases q5 : one = oth
          · rw [if_pos q5, bad0]
            exact ⟨0, (if_neg (fun q => (q.1.2.2.2 q3).2 q5)).symm⟩
          · rw [if_neg q5]
            exact good ⟨fun q => q.2, fun q => ⟨⟨q1, q2, fun q => absurd q q3, fun _ => ⟨q4, q5⟩⟩, q⟩⟩
        · rw [b01_f (show ¬(0 ≤ fnd I one ∧ I 95 (fnd I one) = 2) from q4), if_pos rfl, bad0]
          exact ⟨0, (if_neg (fun q => q4 (q.1.2.2.2 q3).1)).symm⟩
    · rw [b01_f q2, if_pos rfl, bad0]
      exact ⟨0, (if_neg (fun q => q2 q.1.2.1)).symm⟩
  · rw [b01_f (show ¬(0 ≤ fnd I f ∧ I 95 (fnd I f) = 1) from q1), if_pos rfl, bad0]
    exact ⟨0, (if_neg (fun q => q1 q.1.1)).symm⟩
