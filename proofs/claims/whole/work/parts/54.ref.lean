/-! ===== the reference's methods (5): deeds, writes, the draft ===== -/
noncomputable def dJ (I : Nat → Int → Int) (s : Int) : Nat → Int → Int := if I 104 s = 30 then sY I s else I
/-- a deed is added -/
def dA (J : Nat → Int → Int) (s a o : Int) : Nat → Int → Int :=
  rowU (rowU (rowU (rowU J 105 (up1 (J 105) (30 * s + J 104 s) a)) 106 (up1 (J 106) (30 * s + J 104 s) o)) 107 (up1 (J 107) (30 * s + J 104 s) 0)) 104 (up1 (J 104) s (J 104 s + 1))
noncomputable def dO (I : Nat → Int → Int) (s a o : Int) : Nat → Int → Int := dA (dJ I s) s a o
theorem sY_104 (I : Nat → Int → Int) (s : Int) : sY I s 104 s = 0 := by
  unfold sY
  rw [rowU_eq, up1_eq]
theorem dJ_104 {I : Nat → Int → Int} {s : Int} (h : 0 ≤ I 104 s ∧ I 104 s ≤ 30) : 0 ≤ dJ I s 104 s ∧ dJ I s 104 s < 30 := by
  unfold dJ
  split
  · rw [sY_104]; omega
  · omega
theorem r186 {h : HP} {I : Nat → Int → Int} {s a o : Int} {v4 : MV} (L : LX 11 h 94) (ht : 0 ≤ I 94 0 ∧ I 94 0 ≤ 120) (E : WL I) (N : WN I) (hP : ∀ j, I 109 j = 0 ∨ I 109 j = 1) (hs : s = 0 ∨ s = 1) (hd : 0 ≤ I 104 s ∧ I 104 s ≤ 30) :
    Go 186 0 [.inr (.inl (some 94)), .inl s, .inl a, .inl o, v4] [] (mI h I) = some (mI h (dO I s a o), .inl (some (.inl (dJ I s 104 s)))) := by
  have key : Go 186 0 [.inr (.inl (some 94)), .inl s, .inl a, .inl o, v4] [] (mI h I) = Go 186 10 [.inr (.inl (some 94)), .inl s, .inl a, .inl o, v4] [] (mI h (dJ I s)) := by
    unfold dJ
    by_cases hc : I 104 s = 30
    · simp (disch := first | assumption | exact b01_or _ | (simp (decide := true) only [WB_U, WK_U, WL_U]; assumption) | omega | (simp only [rowU, Nat.reduceEqDiff, ↓reduceIte]; omega)) only [ne_eq, not_true_eq_false, not_false_eq_true, if_true, if_false, ite_true, ite_false, caln_v, caln_r, caln_x, Int.reduceEq, Int.reduceNe, Int.reduceLT, Int.reduceLE, Int.reduceAdd, Int.reduceMul, Int.reduceSub, b186_0, b186_6, b186_9, hc, r185]
    · simp (disch := first | assumption | exact b01_or _ | (simp (decide := true) only [WB_U, WK_U, WL_U]; assumption) | omega | (simp only [rowU, Nat.reduceEqDiff, ↓reduceIte]; omega)) only [ne_eq, not_true_eq_false, not_false_eq_true, if_true, if_false, ite_true, ite_false, caln_v, caln_r, caln_x, Int.reduceEq, Int.reduceNe, Int.reduceLT, Int.reduceLE, Int.reduceAdd, Int.reduceMul, Int.reduceSub, b186_0, hc]
  have hj := dJ_104 hd
  rw [key, b186_10 L (by omega) (by omega) (by omega) (by omega) (by simp only [zu2_row, rowU, Nat.reduceEqDiff, ↓reduceIte]; omega)]
  simp only [zu2_row, rowU, Nat.reduceEqDiff, ↓reduceIte]
  rfl
theorem r187 {h : HP} {I : Nat → Int → Int} {s : Int} (L : LX 11 h 94) (N : WN I) (hs : s = 0 ∨ s = 1) (hd : 0 ≤ I 104 s ∧ I 104 s ≤ 30) :
    Go 187 0 [.inr (.inl (some 94)), .inl s] [] (mI h I) = some (mI h (kN I s (I 104 s)), .inl none) := by
  simp (disch := first | assumption | exact b01_or _ | (simp (decide := true) only [WB_U, WK_U, WL_U]; assumption) | omega | (simp only [rowU, Nat.reduceEqDiff, ↓reduceIte]; omega)) only [ne_eq, not_true_eq_false, not_false_eq_true, if_true, if_false, ite_true, ite_false, caln_v, caln_r, caln_x, Int.reduceEq, Int.reduceNe, Int.reduceLT, Int.reduceLE, Int.reduceAdd, Int.reduceMul, Int.reduceSub, b187_0, b187_7, r183]
noncomputable def wR (I : Nat → Int → Int) (s o : Int) : Nat → Int → Int := rowU I 126 (up1 (I 126) (120 * s + o) (I 94 8))
noncomputable def wW (I : Nat → Int → Int) (s o : Int) : Nat → Int → Int :=
  @ite _ (Gd I s o) (Classical.propDecidable _) (wR I s o) (rowU (dO (wR I s o) s 0 o) 101 (up1 (dO (wR I s o) s 0 o 101) (120 * s + o) (2 + dJ (wR I s o) s 104 s)))
theorem r188 {h : HP} {I : Nat → Int → Int} {s o : Int} {v3 : MV} (L : LX 11 h 94) (ht : 0 ≤ I 94 0 ∧ I 94 0 ≤ 120) (E : WL I) (N : WN I) (K : WK I) (hP : ∀ j, I 109 j = 0 ∨ I 109 j = 1) (hs : s = 0 ∨ s = 1) (ho : 0 ≤ o ∧ o < 120) (hd : 0 ≤ I 104 s ∧ I 104 s ≤ 30) :
    Go 188 0 [.inr (.inl (some 94)), .inl s, .inl o, v3] [] (mI h I) = some (mI h (wW I s o), .inl none) := by
  rw [b188_0 L (by omega) (by omega) (by omega), zu2_row]
  rw [show rowU I 126 (up1 (I 126) (120 * s + o) (I 94 8)) = wR I s o from rfl]
  have E2 : WL (wR I s o) := by unfold wR; rw [WL_U (by decide)]; exact E
  have K2 : WK (wR I s o) := by unfold wR; rw [WK_U (by decide)]; exact K
  have G2 : Gd (wR I s o) s o = Gd I s o := by unfold wR; rw [Gd_U (by decide)]
  rw [r181 L K2 E2 hs ho, G2]
  unfold wW
  by_cases hg : Gd I s o
  · rw [if_pos hg, b01_t hg]
    simp (disch := first | assumption | exact b01_or _ | (simp (decide := true) only [WB_U, WK_U, WL_U]; assumption) | omega | (simp only [rowU, Nat.reduceEqDiff, ↓reduceIte]; omega)) only [ne_eq, not_true_eq_false, not_false_eq_true, if_true, if_false, ite_true, ite_false, caln_v, caln_r, caln_x, Int.reduceEq, Int.reduceNe, Int.reduceLT, Int.reduceLE, Int.reduceAdd, Int.reduceMul, Int.reduceSub, b188_14, b188_32]
  · rw [if_neg hg, b01_f hg]
    have hj := dJ_104 (I := wR I s o) (s := s) hd
    simp (disch := first | assumption | exact b01_or _ | (simp (decide := true) only [WB_U, WK_U, WL_U]; assumption) | omega | (simp only [rowU, Nat.reduceEqDiff, ↓reduceIte]; omega)) only [ne_eq, not_true_eq_false, not_false_eq_true, if_true, if_false, ite_true, ite_false, caln_v, caln_r, caln_x, Int.reduceEq, Int.reduceNe, Int.reduceLT, Int.reduceLE, Int.reduceAdd, Int.reduceMul, Int.reduceSub, b188_14, b188_15]
    rw [r186 (I := wR I s o) L ht E2 N hP hs hd]
    simp (disch := first | assumption | exact b01_or _ | (simp (decide := true) only [WB_U, WK_U, WL_U]; assumption) | omega | (simp only [rowU, Nat.reduceEqDiff, ↓reduceIte]; omega)) only [ne_eq, not_true_eq_false, not_false_eq_true, if_true, if_false, ite_true, ite_false, caln_v, caln_r, caln_x, Int.reduceEq, Int.reduceNe, Int.reduceLT, Int.reduceLE, Int.reduceAdd, Int.reduceMul, Int.reduceSub, b188_20, b188_32, zu2_row]
/-- only a field of the reference itself changes -/
def tH (I : Nat → Int → Int) (x : Int) : Nat → Int → Int := rowU I 94 (up1 (I 94) 49 x)
theorem r190 {h : HP} {I : Nat → Int → Int} {v : MV} (L : LX 11 h 94) : Go 190 0 [.inr (.inl (some 94)), v] [] (mI h I) = some (mI h (rowU (tH I 0) 94 (up1 (tH I 0 94) 5 0)), .inl (some (.inl (I 94 5)))) := by
  simp (disch := first | assumption | exact b01_or _ | (simp (decide := true) only [WB_U, WK_U, WL_U]; assumption) | omega | (simp only [rowU, Nat.reduceEqDiff, ↓reduceIte]; omega)) only [ne_eq, not_true_eq_false, not_false_eq_true, if_true, if_false, ite_true, ite_false, caln_v, caln_r, caln_x, Int.reduceEq, Int.reduceNe, Int.reduceLT, Int.reduceLE, Int.reduceAdd, Int.reduceMul, Int.reduceSub, b190_0, zu2_row, rowU, Nat.reduceEqDiff, ↓reduceIte]
  rfl
theorem r189 {h : HP} {I : Nat → Int → Int} {x : Int} (L : LX 11 h 94) (hd : 0 ≤ I 94 5 ∧ I 94 5 ≤ 12) :
    Go 189 0 [.inr (.inl (some 94)), .inl x] [] (mI h I) = (if ¬(0 ≤ x ∧ x ≤ 9999) then some (mI h (tH I 1), .inl (some (.inl 0))) else if I 94 5 = 12 then some (mI h (tH I 2), .inl (some (.inl 0)))
      else some (mI h (rowU (rowU (tH I 0) 99 (up1 (I 99) (I 94 5) x)) 94 (up1 (tH I 0 94) 5 (I 94 5 + 1))), .inl (some (.inl (I 94 5 + 1))))) := by
  by_cases hx : 0 ≤ x ∧ x ≤ 9999
  · rw [if_neg (fun q => q hx)]
    by_cases h12 : I 94 5 = 12
    · rw [if_pos h12]
      simp (disch := first | assumption | exact b01_or _ | (simp (decide := true) only [WB_U, WK_U, WL_U]; assumption) | omega | (simp only [rowU, Nat.reduceEqDiff, ↓reduceIte]; omega)) only [ne_eq, not_true_eq_false, not_false_eq_true, if_true, if_false, ite_true, ite_false, caln_v, caln_r, caln_x, Int.reduceEq, Int.reduceNe, Int.reduceLT, Int.reduceLE, Int.reduceAdd, Int.reduceMul, Int.reduceSub, b189_0, b189_5, b189_6, b189_8, b189_12, b189_14, b189_19, r163, b01_t hx, h12]
      rw [b189_15 L, zu2_row]
      simp (disch := first | assumption | exact b01_or _ | (simp (decide := true) only [WB_U, WK_U, WL_U]; assumption) | omega | (simp only [rowU, Nat.reduceEqDiff, ↓reduceIte]; omega)) only [ne_eq, not_true_eq_false, not_false_eq_true, if_true, if_false, ite_true, ite_false, caln_v, caln_r, caln_x, Int.reduceEq, Int.reduceNe, Int.reduceLT, Int.reduceLE, Int.reduceAdd, Int.reduceMul, Int.reduceSub, rowU, Nat.reduceEqDiff, ↓reduceIte, up1_eq, b189_19]
      rfl
    · rw [if_neg h12]
      simp (disch := first | assumption | exact b01_or _ | (simp (decide := true) only [WB_U, WK_U, WL_U]; assumption) | omega | (simp only [rowU, Nat.reduceEqDiff, ↓reduceIte]; omega)) only [ne_eq, not_true_eq_false, not_false_eq_true, if_true, if_false, ite_true, ite_false, caln_v, caln_r, caln_x, Int.reduceEq, Int.reduceNe, Int.reduceLT, Int.reduceLE, Int.reduceAdd, Int.reduceMul, Int.reduceSub, b189_0, b189_5, b189_6, b189_8, b189_12, b189_14, b189_19, r163, b01_t hx, h12]
      rw [b189_15 L, zu2_row]
      have e5 : rowU I 94 (up1 (I 94) 49 0) 94 5 = I 94 5 := by rw [rowU_eq, up1_ne (by decide)]
      simp (disch := first | assumption | exact b01_or _ | (simp (decide := true) only [WB_U, WK_U, WL_U]; assumption) | omega | (simp only [rowU, Nat.reduceEqDiff, ↓reduceIte]; omega)) only [ne_eq, not_true_eq_false, not_false_eq_true, if_true, if_false, ite_true, ite_false, caln_v, caln_r, caln_x, Int.reduceEq, Int.reduceNe, Int.reduceLT, Int.reduceLE, Int.reduceAdd, Int.reduceMul, Int.reduceSub, rowU, Nat.reduceEqDiff, ↓reduceIte, up1_eq, Int.le_refl]
      have e6 : up1 (I 94) 49 0 5 = I 94 5 := up1_ne (by decide)
      rw [b189_21 L (by rw [e5]; omega) (by simp only [zu2_row, rowU, Nat.reduceEqDiff, ↓reduceIte]; rw [e6]; omega)]
      simp only [zu2_row, rowU, Nat.reduceEqDiff, ↓reduceIte, e6, up1_eq]
      rfl
  · rw [if_pos hx]
    simp (disch := first | assumption | exact b01_or _ | (simp (decide := true) only [WB_U, WK_U, WL_U]; assumption) | omega | (simp only [rowU, Nat.reduceEqDiff, ↓reduceIte]; omega)) only [ne_eq, not_true_eq_false, not_false_eq_true, if_true, if_false, ite_true, ite_false, caln_v, caln_r, caln_x, Int.reduceEq, Int.reduceNe, Int.reduceLT, Int.reduceLE, Int.reduceAdd, Int.reduceMul, Int.reduceSub, b189_0, b189_5, b189_6, b189_8, b189_12, b189_14, b189_19, r163, b01_f hx]
    rw [b189_15 L, zu2_row]
    simp (disch := first | assumption | exact b01_or _ | (simp (decide := true) only [WB_U, WK_U, WL_U]; assumption) | omega | (simp only [rowU, Nat.reduceEqDiff, ↓reduceIte]; omega)) only [ne_eq, not_true_eq_false, not_false_eq_true, if_true, if_false, ite_true, ite_false, caln_v, caln_r, caln_x, Int.reduceEq, Int.reduceNe, Int.reduceLT, Int.reduceLE, Int.reduceAdd, Int.reduceMul, Int.reduceSub, rowU, Nat.reduceEqDiff, ↓reduceIte, up1_eq, b189_19]
    rfl
/-- the last below n of which P holds; -1 for none -/
noncomputable def lastP (P : Int → Prop) : Nat → Int
  | 0 => -1
  | n + 1 => @ite Int (P n) (Classical.propDecidable _) (n : Int) (lastP P n)
theorem lastP_s {P : Int → Prop} {k : Int} (hk : 0 ≤ k) : lastP P (k + 1).toNat = @ite Int (P k) (Classical.propDecidable _) k (lastP P k.toNat) := by
  have : (k + 1).toNat = k.toNat + 1 := by omega
  rw [this]
  show @ite Int (P (k.toNat : Int)) (Classical.propDecidable _) (k.toNat : Int) _ = _
  rw [Int.toNat_of_nonneg hk]
theorem lastP_t {P : Int → Prop} {k : Int} (hk : 0 ≤ k) (hp : P k) : lastP P (k + 1).toNat = k := by rw [lastP_s hk, if_pos hp]
theorem lastP_f {P : Int → Prop} {k : Int} (hk : 0 ≤ k) (hp : ¬P k) : lastP P (k + 1).toNat = lastP P k.toNat := by rw [lastP_s hk, if_neg hp]
theorem lastP_lt {P : Int → Prop} : ∀ n : Nat, -1 ≤ lastP P n ∧ lastP P n < n ∧ (0 ≤ lastP P n → P (lastP P n))
  | 0 => ⟨Int.le_refl _, by show (-1 : Int) < 0; decide, fun h => absurd h (by show ¬ (0 : Int) ≤ -1; decide)⟩
  | n + 1 => by
    have ih := lastP_lt (P := P) n
    by_cases hp : P n
    · have : lastP P (n + 1) = n := if_pos hp
      rw [this]
      exact ⟨by omega, by omega, fun _ => hp⟩
    · have : lastP P (n + 1) = lastP P n := if_neg hp
      rw [this]
      exact ⟨ih.1, by omega, ih.2.2⟩
theorem lastP_no {P : Int → Prop} : ∀ n : Nat, lastP P n = -1 → ∀ k : Int, 0 ≤ k → k < n → ¬P k
  | 0, _, k, h1, h2 => by omega
  | n + 1, h, k, h1, h2 => by
    by_cases hp : P n
    · have : lastP P (n + 1) = n := if_pos hp
      omega
    · have e : lastP P (n + 1) = lastP P n := if_neg hp
      by_cases hk : k = n
      · subst hk; exact hp
      · exact lastP_no n (by omega) k h1 (by omega)
def sB (I : Nat → Int → Int) (c k : Int) : Prop := (I 95 k = c ∧ I 96 k = I 94 5) ∧ ∀ m, 0 ≤ m → m < I 94 5 → I 97 (12 * k + m) = I 99 m
noncomputable def sm (I : Nat → Int → Int) (c : Int) : Int := lastP (sB I c) (I 94 0).toNat
theorem r191 {h : HP} {I : Nat → Int → Int} {c : Int} {v2 v3 v4 v5 : MV} (L : LX 11 h 94) (ht : 0 ≤ I 94 0 ∧ I 94 0 ≤ 120) (hd : 0 ≤ I 94 5 ∧ I 94 5 ≤ 12) :
    Go 191 0 [.inr (.inl (some 94)), .inl c, v2, v3, v4, v5] [] (mI h I) = some (mI h I, .inl (some (.inl (sm I c)))) := by
  rw [b191_0]
  have key := lpE (fun k (v : MV × MV) => Go 191 4 [.inr (.inl (some 94)), .inl c, .inl (lastP (sB I c) k.toNat), .inl k, v.1, v.2] [] (mI h I)) (fun _ _ => True) 0 (I 94 0) ht.1 ?_ (v4, v5) trivial
  · obtain ⟨v, e, -⟩ := key
    refine Eq.trans e ?_
    rw [b191_4 L]
    simp (disch := first | assumption | exact b01_or _ | (simp (decide := true) only [WB_U, WK_U, WL_U]; assumption) | omega | (simp only [rowU, Nat.reduceEqDiff, ↓reduceIte]; omega)) only [ne_eq, not_true_eq_false, not_false_eq_true, if_true, if_false, ite_true, ite_false, caln_v, caln_r, caln_x, Int.reduceEq, Int.reduceNe, Int.reduceLT, Int.reduceLE, Int.reduceAdd, Int.reduceMul, Int.reduceSub, Int.le_refl, b191_60]
    rfl
  · rintro k ⟨v, w⟩ h0 h1 -
    have hk : ¬ I 94 0 ≤ k := by omega
    have h24 : Go 191 4 [.inr (.inl (some 94)), .inl c, .inl (lastP (sB I c) k.toNat), .inl k, v, w] [] (mI h I) = Go 191 27 [.inr (.inl (some 94)), .inl c, .inl (lastP (sB I c) k.toNat), .inl k, .inl (b01 (I 95 k = c ∧ I 96 k = I 94 5)), .inl 0] [] (mI h I) := by
      rw [b191_4 L]
      by_cases h1 : I 95 k = c
      · by_cases h2 : I 96 k = I 94 5
        · rw [b01_t ⟨h1, h2⟩]
          simp (disch := first | assumption | exact b01_or _ | (simp (decide := true) only [WB_U, WK_U, WL_U]; assumption) | omega | (simp only [rowU, Nat.reduceEqDiff, ↓reduceIte]; omega)) only [ne_eq, not_true_eq_false, not_false_eq_true, if_true, if_false, ite_true, ite_false, caln_v, caln_r, caln_x, Int.reduceEq, Int.reduceNe, Int.reduceLT, Int.reduceLE, Int.reduceAdd, Int.reduceMul, Int.reduceSub, hk, h1, h2, b191_8, b191_14, b191_21, b191_24]
        · rw [b01_f (fun q => h2 q.2)]
          simp (disch := first | assumption | exact b01_or _ | (simp (decide := true) only [WB_U, WK_U, WL_U]; assumption) | omega | (simp only [rowU, Nat.reduceEqDiff, ↓reduceIte]; omega)) only [ne_eq, not_true_eq_false, not_false_eq_true, if_true, if_false, ite_true, ite_false, caln_v, caln_r, caln_x, Int.reduceEq, Int.reduceNe, Int.reduceLT, Int.reduceLE, Int.reduceAdd, Int.reduceMul, Int.reduceSub, hk, h1, h2, b191_8, b191_14, b191_23, b191_24]
      · rw [b01_f (fun q => h1 q.1)]
        simp (disch := first | assumption | exact b01_or _ | (simp (decide := true) only [WB_U, WK_U, WL_U]; assumption) | omega | (simp only [rowU, Nat.reduceEqDiff, ↓reduceIte]; omega)) only [ne_eq, not_true_eq_false, not_false_eq_true, if_true, if_false, ite_true, ite_false, caln_v, caln_r, caln_x, Int.reduceEq, Int.reduceNe, Int.reduceLT, Int.reduceLE, Int.reduceAdd, Int.reduceMul, Int.reduceSub, hk, h1, b191_8, b191_23, b191_24]
    have h52 : ∃ w2 : MV, Go 191 27 [.inr (.inl (some 94)), .inl c, .inl (lastP (sB I c) k.toNat), .inl k, .inl (b01 (I 95 k = c ∧ I 96 k = I 94 5)), .inl 0] [] (mI h I) = Go 191 52 [.inr (.inl (some 94)), .inl c, .inl (lastP (sB I c) k.toNat), .inl k, .inl (b01 (sB I c k)), w2] [] (mI h I) ∧ ∃ z, w2 = .inl z := by
      refine lpQ (fun m (x : Prop) => Go 191 27 [.inr (.inl (some 94)), .inl c, .inl (lastP (sB I c) k.toNat), .inl k, .inl (b01 x), .inl m] [] (mI h I))
        (fun m x => x = ((I 95 k = c ∧ I 96 k = I 94 5) ∧ ∀ i, 0 ≤ i → i < m → I 97 (12 * k + i) = I 99 i)) (fun r => ∃ w2 : MV, r = Go 191 52 [.inr (.inl (some 94)), .inl c, .inl (lastP (sB I c) k.toNat), .inl k, .inl (b01 (sB I c k)), w2] [] (mI h I) ∧ ∃ z, w2 = .inl z) 0 (I 94 5) hd.1 ?_ ?_ _ (propext ⟨fun q => ⟨q, fun i a b => by omega⟩, And.left⟩)
      · intro m x m0 m1 hx
        have hm : ¬ I 94 5 ≤ m := by omega
        by_cases hxt : x
        · right
          refine ⟨x ∧ I 97 (12 * k + m) = I 99 m, ?_, ?_⟩
          · rw [b191_27 L]
            by_cases hc : I 97 (12 * k + m) = I 99 m
            · rw [b01_t hxt, b01_t ⟨hxt, hc⟩]
              simp (disch := first | assumption | exact b01_or _ | (simp (decide := true) only [WB_U, WK_U, WL_U]; assumption) | omega | (simp only [rowU, Nat.reduceEqDiff, ↓reduceIte]; omega)) only [ne_eq, not_true_eq_false, not_false_eq_true, if_true, if_false, ite_true, ite_false, caln_v, caln_r, caln_x, Int.reduceEq, Int.reduceNe, Int.reduceLT, Int.reduceLE, Int.reduceAdd, Int.reduceMul, Int.reduceSub, hm, b191_31, b191_33, hc, b191_46, b191_49]
            · rw [b01_t hxt, b01_f (fun q => hc q.2)]
              simp (disch := first | assumption | exact b01_or _ | (simp (decide := true) only [WB_U, WK_U, WL_U]; assumption) | omega | (simp only [rowU, Nat.reduceEqDiff, ↓reduceIte]; omega)) only [ne_eq, not_true_eq_false, not_false_eq_true, if_true, if_false, ite_true, ite_false, caln_v, caln_r, caln_x, Int.reduceEq, Int.reduceNe, Int.reduceLT, Int.reduceLE, Int.reduceAdd, Int.reduceMul, Int.reduceSub, hm, b191_31, b191_33, hc, b191_48, b191_49]
          · rw [hx, and_assoc]
            refine propext (and_congr_right (fun _ => ⟨fun ⟨q1, q2⟩ i a b => ?_, fun q => ⟨fun i a b => q i a (by omega), q m m0 (by omega)⟩⟩))
            by_cases hi : i = m
            · subst hi; exact q2
            · exact q1 i a (by omega)
        · left
          refine ⟨.inl m, ?_, m, rfl⟩
          have hn : ¬ sB I c k := fun q => hxt (by rw [hx]; exact ⟨q.1, fun i a b => q.2 i a (by omega)⟩)
          rw [b191_27 L, b01_f hxt, b01_f hn]
          simp (disch := first | assumption | exact b01_or _ | (simp (decide := true) only [WB_U, WK_U, WL_U]; assumption) | omega | (simp only [rowU, Nat.reduceEqDiff, ↓reduceIte]; omega)) only [ne_eq, not_true_eq_false, not_false_eq_true, if_true, if_false, ite_true, ite_false, caln_v, caln_r, caln_x, Int.reduceEq, Int.reduceNe, Int.reduceLT, Int.reduceLE, Int.reduceAdd, Int.reduceMul, Int.reduceSub, hm, b191_31]
      · intro x hx
        refine ⟨.inl (I 94 5), ?_, _, rfl⟩
        rw [b191_27 L, show x = sB I c k from hx]
        simp (disch := first | assumption | exact b01_or _ | (simp (decide := true) only [WB_U, WK_U, WL_U]; assumption) | omega | (simp only [rowU, Nat.reduceEqDiff, ↓reduceIte]; omega)) only [ne_eq, not_true_eq_false, not_false_eq_true, if_true, if_false, ite_true, ite_false, caln_v, caln_r, caln_x, Int.reduceEq, Int.reduceNe, Int.reduceLT, Int.reduceLE, Int.reduceAdd, Int.reduceMul, Int.reduceSub, Int.le_refl]
    obtain ⟨w2, e2, z, rfl⟩ := h52
    refine ⟨(.inl (b01 (sB I c k)), .inl z), ?_, trivial⟩
    refine (h24.trans e2).trans ?_
    by_cases hb : sB I c k
    · rw [lastP_t h0 hb, b01_t hb]
      simp (disch := first | assumption | exact b01_or _ | (simp (decide := true) only [WB_U, WK_U, WL_U]; assumption) | omega | (simp only [rowU, Nat.reduceEqDiff, ↓reduceIte]; omega)) only [ne_eq, not_true_eq_false, not_false_eq_true, if_true, if_false, ite_true, ite_false, caln_v, caln_r, caln_x, Int.reduceEq, Int.reduceNe, Int.reduceLT, Int.reduceLE, Int.reduceAdd, Int.reduceMul, Int.reduceSub, b191_52, b191_54, b191_57]
    · rw [lastP_f h0 hb, b01_f hb]
      simp (disch := first | assumption | exact b01_or _ | (simp (decide := true) only [WB_U, WK_U, WL_U]; assumption) | omega | (simp only [rowU, Nat.reduceEqDiff, ↓reduceIte]; omega)) only [ne_eq, not_true_eq_false, not_false_eq_true, if_true, if_false, ite_true, ite_false, caln_v, caln_r, caln_x, Int.reduceEq, Int.reduceNe, Int.reduceLT, Int.reduceLE, Int.reduceAdd, Int.reduceMul, Int.reduceSub, b191_52, b191_56, b191_57]
