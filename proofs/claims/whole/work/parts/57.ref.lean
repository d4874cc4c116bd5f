/-! ===== the reference's methods (8): version, tag ===== -/
def sw (I : Nat → Int → Int) : Nat → Int → Int := rowU (rowU I 99 (fillR (I 99) 0 12 (I 100))) 100 (fillR (I 100) 0 12 (I 99))
def bJ (I : Nat → Int → Int) (n : Int) : Nat → Int → Int := rowU (sw I) 94 (up1 (I 94) 5 n)
def rs (M : Nat → Int → Int) (d : Int) : Nat → Int → Int := rowU (rowU M 99 (fillR (M 99) 0 12 (M 100))) 94 (up1 (M 94) 5 d)
noncomputable def tB (h : HP) (I : Nat → Int → Int) (s c n : Int) : Option (HP × OUT) :=
  if sm (bJ I n) c < 0 ∧ bJ I n 94 0 = 100 then some (mI h (rs (tH (bJ I n) 3) (I 94 5)), .inl (some (.inl 0))) else some (mI h (rs (tW (bJ I n) s c) (I 94 5)), .inl (some (.inl (tJ (bJ I n) c 98 (tO (bJ I n) c)))))
theorem WT_b {I : Nat → Int → Int} {n : Int} (W : WT I) : WT (bJ I n) := by
  have e0 : bJ I n 94 0 = I 94 0 := by
    unfold bJ
    rw [rowU_eq, up1_ne (by decide)]
  have e : ∀ a, a ≠ 94 → a ≠ 99 → a ≠ 100 → bJ I n a = I a := fun a h1 h2 h3 => by
    unfold bJ sw
    rw [rowU_ne h1, rowU_ne h3, rowU_ne h2]
  unfold WT
  rw [WB_e e0 (e 95 (by decide) (by decide) (by decide)) (e 96 (by decide) (by decide) (by decide)) (e 97 (by decide) (by decide) (by decide)) (e 98 (by decide) (by decide) (by decide)), WK_e e0 (e 108 (by decide) (by decide) (by decide)) (e 111 (by decide) (by decide) (by decide)) (e 112 (by decide) (by decide) (by decide)) (e 113 (by decide) (by decide) (by decide))]
  exact W
theorem r197 {h : HP} {I : Nat → Int → Int} {s c n : Int} {v4 v5 v6 : MV} (L : LX 11 h 94) (W : WT I) (hs : s = 0 ∨ s = 1) (hc : 0 ≤ c ∧ c ≤ 3) (hn : 0 ≤ n ∧ n ≤ 12) (hb : ∀ j, 0 ≤ j → j < n → 0 ≤ I 100 j ∧ I 100 j ≤ 9999) :
    Go 197 0 [.inr (.inl (some 94)), .inl s, .inl c, .inl n, v4, v5, v6] [] (mI h I) = tB h I s c n := by
  rw [b197_0 L]
  have key1 := lpE (fun k (v : MV) => Go 197 5 [.inr (.inl (some 94)), .inl s, .inl c, .inl n, .inl (I 94 5), .inl k, v] [] (mI h (rowU (rowU I 99 (fillR (I 99) 0 k (I 100))) 100 (fillR (I 100) 0 k (I 99))))) (fun _ _ => True) 0 12 (by omega) ?_ v6 trivial
  · obtain ⟨v, e, -⟩ := key1
    rw [fillR_0 (by omega), fillR_0 (by omega), show rowU (rowU I 99 (I 99)) 100 (I 100) = I by rw [rowU_id, rowU_id]] at e
    rw [e, b197_5, if_pos (by decide), b197_28 L, zu2_row]
    rw [show rowU (rowU (rowU I 99 (fillR (I 99) 0 12 (I 100))) 100 (fillR (I 100) 0 12 (I 99))) 94 (up1 (rowU (rowU I 99 (fillR (I 99) 0 12 (I 100))) 100 (fillR (I 100) 0 12 (I 99)) 94) 5 n) = bJ I n from rfl]
    have D : WD (bJ I n) := by
      have e5 : bJ I n 94 5 = n := by unfold bJ; rw [rowU_eq, up1_eq]
      refine ⟨by rw [e5]; exact hn, fun j a b => ?_⟩
      rw [e5] at b
      have : bJ I n 99 j = I 100 j := by
        show fillR (I 99) 0 12 (I 100) j = _
        rw [fillR_in (by omega)]
      rw [this]
      exact hb j a b
    rw [r192' L (WT_b W) D hs hc]
    have fin : ∀ (M : Nat → Int → Int) (x : Int), caln 197 [.inr (.inl (some 94)), .inl s, .inl c, .inl n, .inl (I 94 5), .inl 12, v] [] 35 (some (mI h M, .inl (some (.inl x)))) = some (mI h (rs M (I 94 5)), .inl (some (.inl x))) := by
      intro M x
      rw [caln_r, b197_35]
      have key2 := lpU (fun k => Go 197 38 [.inr (.inl (some 94)), .inl s, .inl c, .inl n, .inl (I 94 5), .inl x, .inl k] [] (mI h (rowU M 99 (fillR (M 99) 0 k (M 100))))) 0 12 (by omega) ?_
      · rw [fillR_0 (by omega), rowU_id] at key2
        rw [key2, b197_38, if_pos (by decide), b197_51 L, zu2_row]
        rfl
      · intro k h0 h1
        rw [b197_38, if_neg (by omega), b197_41 L (by omega) (by omega), zu2_row, rowU_tw]
        simp only [rowU, Nat.reduceEqDiff, ↓reduceIte]
        rw [fillR_s h0 rfl]
    unfold tR tB
    split
    · exact fin _ _
    · exact fin _ _
  · intro k v h0 h1 _
    refine ⟨.inl (fillR (I 99) 0 k (I 100) k), ?_, trivial⟩
    rw [b197_5, if_neg (by omega), b197_8 L (by omega) (by omega)]
    simp only [zu2_row, rowU, Nat.reduceEqDiff, ↓reduceIte]
    have o1 : fillR (I 99) 0 k (I 100) k = I 99 k := fillR_out (by omega)
    have o2 : fillR (I 100) 0 k (I 99) k = I 100 k := fillR_out (by omega)
    rw [o1, o2, rowU_k2, fillR_s h0 rfl, fillR_s h0 rfl]
theorem r198 {h : HP} {I : Nat → Int → Int} {s x : Int} (L : LX 11 h 94) (W : WB I) (K : WK I) (hs : s = 0 ∨ s = 1) (hx : 0 ≤ fnd I x) : Go 198 0 [.inr (.inl (some 94)), .inl s, .inl x] [] (mI h I) = some (mI h I, .inl (some (.inl (b01 (Th I s (fnd I x)))))) := by
  have ht := WB_t W
  have hf := fnd_lt (I := I) (x := x) ht.1
  rw [b198_0 L, r165 L ht, caln_r, b198_5 L, r179 L K hs (by omega), caln_r, b198_6 (b01_or _)]
def kI (I : Nat → Int → Int) (x c : Int) : Prop := 0 ≤ fnd I x ∧ I 95 (fnd I x) = c
def v1 (I : Nat → Int → Int) (s f one oth : Int) : Prop := (s = 0 ∨ s = 1) ∧ 0 ≤ fnd I f ∧ (one = -1 ∨ 0 ≤ fnd I one) ∧ (oth = -1 ∨ 0 ≤ fnd I oth)
def v2 (I : Nat → Int → Int) (f date one oth : Int) : Prop := (kI I f 1 ∧ (0 ≤ date ∧ date ≤ 9999) ∧ (one = -1 → oth = -1) ∧ (one ≠ -1 → kI I one 2 ∧ one ≠ oth)) ∧ (oth = -1 ∨ kI I oth 2)
def v3 (I : Nat → Int → Int) (s f one oth : Int) : Prop := Th I s (fnd I f) ∧ (one = -1 ∨ Th I s (fnd I one)) ∧ (oth = -1 ∨ Th I s (fnd I oth))
theorem neg1_ne : ¬((1 : Int) = 0) := by decide
theorem r199a {h : HP} {I : Nat → Int → Int} {s f d one oth : Int} {w6 w7 : MV} (L : LX 11 h 94) (ht : 0 ≤ I 94 0 ∧ I 94 0 ≤ 120) :
    Go 199 0 [.inr (.inl (some 94)), .inl s, .inl f, .inl d, .inl one, .inl oth, w6, w7] [] (mI h I) = @ite _ (v1 I s f one oth) (Classical.propDecidable _) (Go 199 25 [.inr (.inl (some 94)), .inl s, .inl f, .inl d, .inl one, .inl oth, w6, w7] [] (mI h (tH I 0))) (some (mI h (tH I 1), .inl (some (.inl 0)))) := by
  have bad : Go 199 18 [.inr (.inl (some 94)), .inl s, .inl f, .inl d, .inl one, .inl oth, w6, w7] [.inr (.inl (some 94))] (mI h I) = some (mI h (tH I 1), .inl (some (.inl 0))) := by
    rw [b199_18, b199_19 L, zu2_tI, tH_49, if_neg (by decide), b199_23]
  by_cases hs : s = 0 ∨ s = 1
  · by_cases hf : 0 ≤ fnd I f
    · by_cases h1 : one = -1 ∨ 0 ≤ fnd I one
      · by_cases h2 : oth = -1 ∨ 0 ≤ fnd I oth
        · rw [if_pos (show v1 I s f one oth from ⟨hs, hf, h1, h2⟩)]
          simp (disch := first | assumption | exact b01_or _ | (simp (decide := true) only [WB_U, WK_U, WL_U]; assumption) | omega | (simp only [rowU, Nat.reduceEqDiff, ↓reduceIte]; omega)) only [ne_eq, not_true_eq_false, not_false_eq_true, if_true, if_false, ite_true, ite_false, caln_v, caln_r, caln_x, Int.reduceEq, Int.reduceNe, Int.reduceLT, Int.reduceLE, Int.reduceAdd, Int.reduceMul, Int.reduceSub, b199_0, r164, b01_t hs, b199_3, b199_4, r166, b01_t hf, b199_7, b199_8, r167, b01_t h1, b199_11, b199_12, b01_t h2, b199_15, b199_16]
          rw [b199_19 L, zu2_tI, tH_49, if_pos (by decide)]
        · rw [if_neg (show ¬ v1 I s f one oth from fun q => h2 q.2.2.2)]
          simp (disch := first | assumption | exact b01_or _ | (simp (decide := true) only [WB_U, WK_U, WL_U]; assumption) | omega | (simp only [rowU, Nat.reduceEqDiff, ↓reduceIte]; omega)) only [ne_eq, not_true_eq_false, not_false_eq_true, if_true, if_false, ite_true, ite_false, caln_v, caln_r, caln_x, Int.reduceEq, Int.reduceNe, Int.reduceLT, Int.reduceLE, Int.reduceAdd, Int.reduceMul, Int.reduceSub, b199_0, r164, b01_t hs, b199_3, b199_4, r166, b01_t hf, b199_7, b199_8, r167, b01_t h1, b199_11, b199_12, b01_f h2, b199_15, bad]
      · rw [if_neg (show ¬ v1 I s f one oth from fun q => h1 q.2.2.1)]
        simp (disch := first | assumption | exact b01_or _ | (simp (decide := true) only [WB_U, WK_U, WL_U]; assumption) | omega | (simp only [rowU, Nat.reduceEqDiff, ↓reduceIte]; omega)) only [ne_eq, not_true_eq_false, not_false_eq_true, if_true, if_false, ite_true, ite_false, caln_v, caln_r, caln_x, Int.reduceEq, Int.reduceNe, Int.reduceLT, Int.reduceLE, Int.reduceAdd, Int.reduceMul, Int.reduceSub, b199_0, r164, b01_t hs, b199_3, b199_4, r166, b01_t hf, b199_7, b199_8, r167, b01_f h1, b199_11, bad]
    · rw [if_neg (show ¬ v1 I s f one oth from fun q => hf q.2.1)]
      simp (disch := first | assumption | exact b01_or _ | (simp (decide := true) only [WB_U, WK_U, WL_U]; assumption) | omega | (simp only [rowU, Nat.reduceEqDiff, ↓reduceIte]; omega)) only [ne_eq, not_true_eq_false, not_false_eq_true, if_true, if_false, ite_true, ite_false, caln_v, caln_r, caln_x, Int.reduceEq, Int.reduceNe, Int.reduceLT, Int.reduceLE, Int.reduceAdd, Int.reduceMul, Int.reduceSub, b199_0, r164, b01_t hs, b199_3, b199_4, r166, b01_f hf, b199_7, bad]
  · rw [if_neg (show ¬ v1 I s f one oth from fun q => hs q.1)]
    simp (disch := first | assumption | exact b01_or _ | (simp (decide := true) only [WB_U, WK_U, WL_U]; assumption) | omega | (simp only [rowU, Nat.reduceEqDiff, ↓reduceIte]; omega)) only [ne_eq, not_true_eq_false, not_false_eq_true, if_true, if_false, ite_true, ite_false, caln_v, caln_r, caln_x, Int.reduceEq, Int.reduceNe, Int.reduceLT, Int.reduceLE, Int.reduceAdd, Int.reduceMul, Int.reduceSub, b199_0, r164, b01_f hs, b199_3, bad]
theorem r199b {h : HP} {I : Nat → Int → Int} {s f d one oth : Int} {w6 w7 : MV} (L : LX 11 h 94) (ht : 0 ≤ I 94 0 ∧ I 94 0 ≤ 120) :
    ∃ z, Go 199 25 [.inr (.inl (some 94)), .inl s, .inl f, .inl d, .inl one, .inl oth, w6, w7] [] (mI h I) = @ite _ (v2 I f d one oth) (Classical.propDecidable _) (Go 199 74 [.inr (.inl (some 94)), .inl s, .inl f, .inl d, .inl one, .inl oth, .inl z, w7] [] (mI h (tH I 0))) (some (mI h (tH I 2), .inl (some (.inl 0)))) := by
  have bad : ∀ z, Go 199 65 [.inr (.inl (some 94)), .inl s, .inl f, .inl d, .inl one, .inl oth, .inl z, w7] [.inr (.inl (some 94))] (mI h I) = some (mI h (tH I 2), .inl (some (.inl 0))) := by
    intro z
    rw [b199_65, b199_68 L, zu2_tI, tH_49, if_neg (by decide), b199_72]
  have bad0 : Go 199 52 [.inr (.inl (some 94)), .inl s, .inl f, .inl d, .inl one, .inl oth, w6, w7] [] (mI h I) = some (mI h (tH I 2), .inl (some (.inl 0))) := by
    rw [b199_52, b199_53, if_pos rfl, bad]
  have good : (v2 I f d one oth ↔ (oth = -1 ∨ kI I oth 2)) → ∃ z, Go 199 50 [.inr (.inl (some 94)), .inl s, .inl f, .inl d, .inl one, .inl oth, w6, w7] [] (mI h I) = @ite _ (v2 I f d one oth) (Classical.propDecidable _) (Go 199 74 [.inr (.inl (some 94)), .inl s, .inl f, .inl d, .inl one, .inl oth, .inl z, w7] [] (mI h (tH I 0))) (some (mI h (tH I 2), .inl (some (.inl 0)))) := by
    intro hv
    refine ⟨1, ?_⟩
    rw [b199_50, b199_53, if_neg neg1_ne, b199_57]
    have ok : Go 199 67 [.inr (.inl (some 94)), .inl s, .inl f, .inl d, .inl one, .inl oth, .inl 1, w7] [.inr (.inl (some 94))] (mI h I) = Go 199 74 [.inr (.inl (some 94)), .inl s, .inl f, .inl d, .inl one, .inl oth, .inl 1, w7] [] (mI h (tH I 0)) := by
      rw [b199_67, b199_68 L, zu2_tI, tH_49, if_pos (by decide)]
    by_cases q1 : oth = -1
    · rw [if_pos q1, if_pos (hv.mpr (Or.inl q1)), ok]
    · rw [if_neg q1, b199_60 L, r168 L ht, caln_r, b199_64]
      by_cases q2 : kI I oth 2
      · rw [if_pos (hv.mpr (Or.inr q2)), b01_t (show 0 ≤ fnd I oth ∧ I 95 (fnd I oth) = 2 from q2), if_pos neg1_ne, ok]
      · rw [if_neg (fun q => (hv.mp q).elim q1 q2), b01_f (show ¬(0 ≤ fnd I oth ∧ I 95 (fnd I oth) = 2) from q2), if_neg (fun q => q rfl), bad]
  rw [b199_25 L, r168 L ht, caln_r, b199_29]
  by_cases q1 : kI I f 1
  · rw [b01_t (show 0 ≤ fnd I f ∧ I 95 (fnd I f) = 1 from q1), if_neg neg1_ne, b199_30, r163, caln_r, b199_34]
    by_cases q2 : 0 ≤ d ∧ d ≤ 9999
    · rw [b01_t q2, if_neg neg1_ne, b199_35]
      by_cases q3 : one = -1
      · rw [if_neg (fun q => q q3), b199_38]
        by_cases q4 : oth = -1
        · rw [if_neg (fun q => q q4), b199_41]
          exact good ⟨fun q => q.2, fun q => ⟨⟨q1, q2, fun _ => q4, fun q => absurd q3 q⟩, q⟩⟩
        · rw [if_pos q4, bad0]
          exact ⟨0, (if_neg (fun q => q4 (q.1.2.2.1 q3))).symm⟩
      · rw [if_pos q3, b199_42 L, r168 L ht, caln_r, b199_46]
        by_cases q4 : kI I one 2
        · rw [b01_t (show 0 ≤ fnd I one ∧ I 95 (fnd I one) = 2 from q4), if_neg neg1_ne, b199_47]
          by_cases q5 : one = oth
          · rw [if_pos q5, bad0]
            exact ⟨0, (if_neg (fun q => (q.1.2.2.2 q3).2 q5)).symm⟩
          · rw [if_neg q5]
            exact good ⟨fun q => q.2, fun q => ⟨⟨q1, q2, fun q => absurd q q3, fun _ => ⟨q4, q5⟩⟩, q⟩⟩
        · rw [b01_f (show ¬(0 ≤ fnd I one ∧ I 95 (fnd I one) = 2) from q4), if_pos rfl, bad0]
          exact ⟨0, (if_neg (fun q => q4 (q.1.2.2.2 q3).1)).symm⟩
    · rw [b01_f q2, if_pos rfl, bad0]
      exact ⟨0, (if_neg (fun q => q2 q.1.2.1)).symm⟩
  · rw [b01_f (show ¬(0 ≤ fnd I f ∧ I 95 (fnd I f) = 1) from q1), if_pos rfl, bad0]
    exact ⟨0, (if_neg (fun q => q1 q.1.1)).symm⟩
theorem r199c {h : HP} {I : Nat → Int → Int} {s f d one oth : Int} {w6 w7 : MV} (L : LX 11 h 94) (W : WB I) (K : WK I) (hs : s = 0 ∨ s = 1) (hf : 0 ≤ fnd I f) (h1 : one = -1 ∨ 0 ≤ fnd I one) (h2 : oth = -1 ∨ 0 ≤ fnd I oth) (w6i : ∃ z, w6 = .inl z) :
    ∃ z, Go 199 74 [.inr (.inl (some 94)), .inl s, .inl f, .inl d, .inl one, .inl oth, w6, w7] [] (mI h I) = @ite _ (v3 I s f one oth) (Classical.propDecidable _) (Go 199 111 [.inr (.inl (some 94)), .inl s, .inl f, .inl d, .inl one, .inl oth, w6, .inl z] [] (mI h (tH I 0))) (some (mI h (tH I 3), .inl (some (.inl 0)))) := by
  obtain ⟨z6, rfl⟩ := w6i
  have bad : Go 199 97 [.inr (.inl (some 94)), .inl s, .inl f, .inl d, .inl one, .inl oth, .inl z6, w7] [] (mI h I) = some (mI h (tH I 3), .inl (some (.inl 0))) := by
    rw [b199_97, b199_98, if_pos rfl, b199_104, b199_105 L, zu2_tI, tH_49, if_neg (by decide), b199_109]
  have ok : Go 199 95 [.inr (.inl (some 94)), .inl s, .inl f, .inl d, .inl one, .inl oth, .inl z6, w7] [] (mI h I) = Go 199 111 [.inr (.inl (some 94)), .inl s, .inl f, .inl d, .inl one, .inl oth, .inl z6, .inl 1] [] (mI h (tH I 0)) := by
    rw [b199_95, b199_98, if_neg neg1_ne, b199_102, b199_105 L, zu2_tI, tH_49, if_pos (by decide)]
  have last : (v3 I s f one oth ↔ (oth = -1 ∨ Th I s (fnd I oth))) → Go 199 87 [.inr (.inl (some 94)), .inl s, .inl f, .inl d, .inl one, .inl oth, .inl z6, w7] [] (mI h I) = @ite _ (v3 I s f one oth) (Classical.propDecidable _) (Go 199 111 [.inr (.inl (some 94)), .inl s, .inl f, .inl d, .inl one, .inl oth, .inl z6, .inl 1] [] (mI h (tH I 0))) (some (mI h (tH I 3), .inl (some (.inl 0)))) := by
    intro hv
    rw [b199_87]
    by_cases q1 : oth = -1
    · rw [if_pos q1, if_pos (hv.mpr (Or.inl q1)), ok]
    · rw [if_neg q1, b199_90 L, r198 L W K hs (h2.resolve_left q1), caln_r, b199_94]
      by_cases q2 : Th I s (fnd I oth)
      · rw [if_pos (hv.mpr (Or.inr q2)), b01_t q2, if_neg neg1_ne, ok]
      · rw [if_neg (fun q => (hv.mp q).elim q1 q2), b01_f q2, if_pos rfl, bad]
  refine ⟨1, ?_⟩
  rw [b199_74 L, r198 L W K hs hf, caln_r, b199_78]
  by_cases q1 : Th I s (fnd I f)
  · rw [b01_t q1, if_neg neg1_ne, b199_79]
    by_cases q2 : one = -1
    · rw [if_pos q2]
      exact last ⟨fun q => q.2.2, fun q => ⟨q1, Or.inl q2, q⟩⟩
    · rw [if_neg q2, b199_82 L, r198 L W K hs (h1.resolve_left q2), caln_r, b199_86]
      by_cases q3 : Th I s (fnd I one)
      · rw [b01_t q3, if_neg neg1_ne]
        exact last ⟨fun q => q.2.2, fun q => ⟨q1, Or.inr q3, q⟩⟩
      · rw [b01_f q3, if_pos rfl, bad, if_neg (fun q => q.2.1.elim q2 q3)]
  · rw [b01_f q1, if_pos rfl, bad, if_neg (fun q => q1 q.1)]
/-- names are numbers of a body -/
def WX (I : Nat → Int → Int) : Prop := ∀ k, 0 ≤ k → k < I 94 0 → 0 ≤ I 98 k ∧ I 98 k ≤ 9999
theorem WX_b {I : Nat → Int → Int} (X : WX I) (ht : 0 ≤ I 94 0) {x : Int} (h : 0 ≤ fnd I x) : 0 ≤ x ∧ x ≤ 9999 := by
  have hf := fnd_lt (I := I) (x := x) ht
  have := X (fnd I x) h hf.2.1
  rw [hf.2.2 h] at this
  exact this
/-- the row beside the draft, for a version -/
def vB (I : Nat → Int → Int) (f d one oth : Int) : Nat → Int → Int := rowU I 100 (up1 (up1 (up1 (up1 (I 100) 0 f) 1 d) 2 one) 3 oth)
theorem WT_rU {I : Nat → Int → Int} {f : Int → Int} : WT (rowU I 100 f) = WT I := by
  unfold WT
  rw [WB_U (by decide), WK_e (I := I) (J := rowU I 100 f) rfl rfl rfl rfl rfl]
  rfl
theorem r199 {h : HP} {I : Nat → Int → Int} {s f d one oth : Int} {w6 w7 : MV} (L : LX 11 h 94) (W : WT I) (X : WX I) :
    Go 199 0 [.inr (.inl (some 94)), .inl s, .inl f, .inl d, .inl one, .inl oth, w6, w7] [] (mI h I) = @ite _ (v1 I s f one oth) (Classical.propDecidable _) (@ite _ (v2 I f d one oth) (Classical.propDecidable _) (@ite _ (v3 I s f one oth) (Classical.propDecidable _)
      (tB h (vB (tH I 0) f d one oth) s 2 (if one = -1 then 2 else if oth = -1 then 3 else 4)) (some (mI h (tH I 3), .inl (some (.inl 0))))) (some (mI h (tH I 2), .inl (some (.inl 0))))) (some (mI h (tH I 1), .inl (some (.inl 0)))) := by
  have ht := WB_t W.1
  have e0 : tH I 0 94 0 = I 94 0 := tH_94 (by decide)
  have ht2 : 0 ≤ tH I 0 94 0 ∧ tH I 0 94 0 ≤ 120 := by rw [e0]; exact ht
  have W2 : WT (tH I 0) := by rw [WT_tH]; exact W
  have ff : fnd (tH I 0) = fnd I := funext (fun _ => fnd_tH)
  have f2 : v2 (tH I 0) = v2 I := by
    unfold v2 kI
    rw [ff, tH_n (by decide)]
  have f3 : v3 (tH I 0) = v3 I := by
    unfold v3
    rw [ff]
    rfl
  rw [r199a L ht]
  by_cases c1 : v1 I s f one oth
  · rw [if_pos c1, if_pos c1]
    obtain ⟨z, e⟩ := r199b (h := h) (I := tH I 0) (s := s) (f := f) (d := d) (one := one) (oth := oth) (w6 := w6) (w7 := w7) L ht2
    rw [e, f2, tH_tH, tH_tH]
    by_cases c2 : v2 I f d one oth
    · rw [if_pos c2, if_pos c2]
      obtain ⟨z2, e2⟩ := r199c (h := h) (I := tH I 0) (s := s) (f := f) (d := d) (one := one) (oth := oth) (w6 := .inl z) (w7 := w7) L W2.1 W2.2.2.2.1 c1.1 (by rw [ff]; exact c1.2.1) (by rw [ff]; exact c1.2.2.1) (by rw [ff]; exact c1.2.2.2) ⟨z, rfl⟩
      rw [e2, f3, tH_tH, tH_tH]
      by_cases c3 : v3 I s f one oth
      · rw [if_pos c3, if_pos c3]
        have b1 := WX_b X ht.1 c1.2.1
        have hfin : ∀ n : Int, n = (if one = -1 then 2 else if oth = -1 then 3 else 4) → caln 199 [.inr (.inl (some 94)), .inl s, .inl f, .inl d, .inl one, .inl oth, .inl z, .inl z2] [] 146 (Go 197 0 [.inr (.inl (some 94)), .inl s, .inl 2, .inl n, vU, vU, vU] [] (mI h (vB (tH I 0) f d one oth))) = tB h (vB (tH I 0) f d one oth) s 2 n := by
          intro n hn
          have W3 : WT (vB (tH I 0) f d one oth) := by unfold vB; rw [WT_rU]; exact W2
          have hnb : 0 ≤ n ∧ n ≤ 12 := by rw [hn]; split; decide; split <;> decide
          rw [r197 L W3 c1.1 (by decide) hnb (fun j a b => ?_)]
          · unfold tB
            split <;> rw [caln_r, b199_146]
          · have hj : j < 4 := by
              rw [hn] at b
              split at b
              · omega
              · split at b <;> omega
            unfold vB
            simp only [rowU, Nat.reduceEqDiff, ↓reduceIte]
            by_cases j3 : j = 3
            · subst j3
              rw [up1_eq]
              have q1 : one ≠ -1 := fun q => by rw [hn, if_pos q] at b; omega
              have q2 : oth ≠ -1 := fun q => by rw [hn, if_neg q1, if_pos q] at b; omega
              exact WX_b X ht.1 (c1.2.2.2.resolve_left q2)
            · rw [up1_ne j3]
              by_cases j2 : j = 2
              · subst j2
                rw [up1_eq]
                have q1 : one ≠ -1 := fun q => by rw [hn, if_pos q] at b; omega
                exact WX_b X ht.1 (c1.2.2.1.resolve_left q1)
              · rw [up1_ne j2]
                by_cases j1 : j = 1
                · subst j1
                  rw [up1_eq]
                  exact c2.1.2.1
                · rw [up1_ne j1]
                  have : j = 0 := by omega
                  subst this
                  rw [up1_eq]
                  exact b1
        have emem : zu2 (zu2 (zu2 (zu2 (tH I 0) 100 0 f) 100 1 d) 100 2 one) 100 3 oth = vB (tH I 0) f d one oth := by
          simp only [zu2_row, rowU_tw, rowU_eq]
          rfl
        rw [b199_111 L, emem]
        by_cases q1 : one = -1
        · rw [if_neg (fun q => q q1), b199_137, b199_145 L, if_pos q1]
          exact hfin 2 (by rw [if_pos q1])
        · rw [if_pos q1, b199_139, if_neg q1]
          by_cases q2 : oth = -1
          · rw [if_neg (fun q => q q2), b199_142, b199_145 L, if_pos q2]
            exact hfin 3 (by rw [if_neg q1, if_pos q2])
          · rw [if_pos q2, b199_144, b199_145 L, if_neg q2]
            exact hfin 4 (by rw [if_neg q1, if_neg q2])
      · rw [if_neg c3, if_neg c3]
    · rw [if_neg c2, if_neg c2]
  · rw [if_neg c1, if_neg c1]
def tgB (I : Nat → Int → Int) (x : Int) : Nat → Int → Int := rowU I 100 (up1 (I 100) 0 x)
theorem r200 {h : HP} {I : Nat → Int → Int} {s x : Int} (L : LX 11 h 94) (W : WT I) (X : WX I) :
    Go 200 0 [.inr (.inl (some 94)), .inl s, .inl x] [] (mI h I) = @ite _ ((s = 0 ∨ s = 1) ∧ 0 ≤ fnd I x) (Classical.propDecidable _) (@ite _ (kI I x 2) (Classical.propDecidable _) (@ite _ (Th I s (fnd I x)) (Classical.propDecidable _)
      (tB h (tgB (tH I 0) x) s 3 1) (some (mI h (tH I 3), .inl (some (.inl 0))))) (some (mI h (tH I 2), .inl (some (.inl 0))))) (some (mI h (tH I 1), .inl (some (.inl 0)))) := by
  have ht := WB_t W.1
  have W2 : WT (tH I 0) := by rw [WT_tH]; exact W
  have bad : ∀ t : Int, 0 < t → Go 200 25 [.inr (.inl (some 94)), .inl s, .inl x] [.inl t, .inr (.inl (some 94))] (mI h I) = some (mI h (tH I t), .inl (some (.inl 0))) := by
    intro t h0
    rw [b200_25 L, zu2_tI, tH_49, if_neg (by omega), b200_29]
  by_cases hs : s = 0 ∨ s = 1
  · by_cases hx : 0 ≤ fnd I x
    · rw [if_pos ⟨hs, hx⟩, b200_0, r164, caln_r, b01_t hs, b200_3, if_neg neg1_ne, b200_4 L, r166 L ht, caln_r, b01_t hx, b200_7, if_pos neg1_ne, b200_10 L, r168 L ht, caln_r, b200_14]
      by_cases c2 : kI I x 2
      · rw [if_pos c2, b01_t (show 0 ≤ fnd I x ∧ I 95 (fnd I x) = 2 from c2), if_pos neg1_ne, b200_17 L, r198 L W.1 W.2.2.2.1 hs hx, caln_r, b200_21]
        by_cases c3 : Th I s (fnd I x)
        · rw [if_pos c3, b01_t c3, if_neg neg1_ne, b200_22, b200_25 L, zu2_tI, tH_49, if_pos (by decide), b200_31 L, zu2_row]
          rw [show rowU (tH I 0) 100 (up1 (tH I 0 100) 0 x) = tgB (tH I 0) x from rfl]
          have W3 : WT (tgB (tH I 0) x) := by unfold tgB; rw [WT_rU]; exact W2
          rw [r197 L W3 hs (by decide) (by decide) (fun j a b => ?_)]
          · unfold tB
            split <;> rw [caln_r, b200_41]
          · have : j = 0 := by omega
            subst this
            have := WX_b X ht.1 hx
            unfold tgB
            rw [rowU_eq, up1_eq]
            exact this
        · rw [if_neg c3, b01_f c3, if_pos rfl, b200_24, bad 3 (by decide)]
      · rw [if_neg c2, b01_f (show ¬(0 ≤ fnd I x ∧ I 95 (fnd I x) = 2) from c2), if_neg (fun q => q rfl), b200_15, bad 2 (by decide)]
    · rw [if_neg (fun q => hx q.2), b200_0, r164, caln_r, b01_t hs, b200_3, if_neg neg1_ne, b200_4 L, r166 L ht, caln_r, b01_f hx, b200_7, if_neg (fun q => q rfl), b200_8, bad 1 (by decide)]
  · rw [if_neg (fun q => hs q.1), b200_0, r164, caln_r, b01_f hs, b200_3, if_pos rfl, b200_8, bad 1 (by decide)]
