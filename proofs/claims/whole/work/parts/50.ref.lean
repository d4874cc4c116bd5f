/-! ===== the reference's methods (1) ===== -/
theorem r163 {h : HP} {I : Nat → Int → Int} {x a b : Int} : Go 163 0 [.inl x, .inl a, .inl b] [] (mI h I) = some (mI h I, .inl (some (.inl (b01 (a ≤ x ∧ x ≤ b))))) := by
  by_cases h1 : x < a
  · rw [b01_f (by omega)]
    simp (disch := first | assumption | omega | (simp only [rowU, Nat.reduceEqDiff, ↓reduceIte]; omega)) only [ne_eq, not_true_eq_false, not_false_eq_true, if_true, if_false, ite_true, ite_false, caln_v, caln_r, caln_x, zero_ne_one_I, one_ne_zero_I, b163_0, b163_3, b163_6, b163_8, b163_9, h1]
  · by_cases h2 : b < x
    · rw [b01_f (by omega)]
      simp (disch := first | assumption | omega | (simp only [rowU, Nat.reduceEqDiff, ↓reduceIte]; omega)) only [ne_eq, not_true_eq_false, not_false_eq_true, if_true, if_false, ite_true, ite_false, caln_v, caln_r, caln_x, zero_ne_one_I, one_ne_zero_I, b163_0, b163_3, b163_6, b163_8, b163_9, h1, h2]
    · rw [b01_t (by omega)]
      simp (disch := first | assumption | omega | (simp only [rowU, Nat.reduceEqDiff, ↓reduceIte]; omega)) only [ne_eq, not_true_eq_false, not_false_eq_true, if_true, if_false, ite_true, ite_false, caln_v, caln_r, caln_x, zero_ne_one_I, one_ne_zero_I, b163_0, b163_3, b163_6, b163_8, b163_9, h1, h2]
theorem r164 {h : HP} {I : Nat → Int → Int} {x : Int} : Go 164 0 [.inl x] [] (mI h I) = some (mI h I, .inl (some (.inl (b01 (x = 0 ∨ x = 1))))) := by
  by_cases h1 : x = 0
  · rw [b01_t (by omega)]
    simp (disch := first | assumption | omega | (simp only [rowU, Nat.reduceEqDiff, ↓reduceIte]; omega)) only [ne_eq, not_true_eq_false, not_false_eq_true, if_true, if_false, ite_true, ite_false, caln_v, caln_r, caln_x, zero_ne_one_I, one_ne_zero_I, b164_0, b164_2, b164_5, b164_7, b164_8, h1]
  · by_cases h2 : x = 1
    · rw [b01_t (by omega)]
      simp (disch := first | assumption | omega | (simp only [rowU, Nat.reduceEqDiff, ↓reduceIte]; omega)) only [ne_eq, not_true_eq_false, not_false_eq_true, if_true, if_false, ite_true, ite_false, caln_v, caln_r, caln_x, zero_ne_one_I, one_ne_zero_I, b164_0, b164_2, b164_5, b164_7, b164_8, h1, h2]
    · rw [b01_f (by omega)]
      simp (disch := first | assumption | omega | (simp only [rowU, Nat.reduceEqDiff, ↓reduceIte]; omega)) only [ne_eq, not_true_eq_false, not_false_eq_true, if_true, if_false, ite_true, ite_false, caln_v, caln_r, caln_x, zero_ne_one_I, one_ne_zero_I, b164_0, b164_2, b164_5, b164_7, b164_8, h1, h2]
theorem r165 {h : HP} {I : Nat → Int → Int} {x : Int} {v2 v3 : MV} (L : LX 11 h 94) (ht : 0 ≤ I 94 0 ∧ I 94 0 ≤ 120) : Go 165 0 [.inr (.inl (some 94)), .inl x, v2, v3] [] (mI h I) = some (mI h I, .inl (some (.inl (fnd I x)))) := by
  rw [b165_0]
  refine (lpU (fun k => Go 165 4 [.inr (.inl (some 94)), .inl x, .inl (fndN (I 98) x k.toNat), .inl k] [] (mI h I)) 0 (I 94 0) ht.1 ?_).trans ?_
  · intro k h0 h1
    have h2 : ¬ I 94 0 ≤ k := by omega
    show _ = Go 165 4 [.inr (.inl (some 94)), .inl x, .inl (fndN (I 98) x (k + 1).toNat), .inl (k + 1)] [] (mI h I)
    rw [fndN_s h0]
    rw [b165_4 L]
    by_cases hc : I 98 k = x
    · simp (disch := first | assumption | omega | (simp only [rowU, Nat.reduceEqDiff, ↓reduceIte]; omega)) only [ne_eq, not_true_eq_false, not_false_eq_true, if_true, if_false, ite_true, ite_false, caln_v, caln_r, caln_x, zero_ne_one_I, one_ne_zero_I, b165_0, b165_8, b165_14, b165_16, b165_17, b165_20, hc, h2]
    · simp (disch := first | assumption | omega | (simp only [rowU, Nat.reduceEqDiff, ↓reduceIte]; omega)) only [ne_eq, not_true_eq_false, not_false_eq_true, if_true, if_false, ite_true, ite_false, caln_v, caln_r, caln_x, zero_ne_one_I, one_ne_zero_I, b165_0, b165_8, b165_14, b165_16, b165_17, b165_20, hc, h2]
  · simp (disch := first | assumption | omega | (simp only [rowU, Nat.reduceEqDiff, ↓reduceIte]; omega)) only [ne_eq, not_true_eq_false, not_false_eq_true, if_true, if_false, ite_true, ite_false, caln_v, caln_r, caln_x, zero_ne_one_I, one_ne_zero_I, b165_0, b165_4, b165_8, b165_14, b165_16, b165_17, b165_20, Int.le_refl, fnd]
theorem fndN_lt {nm : Int → Int} {x : Int} : ∀ n : Nat, -1 ≤ fndN nm x n ∧ fndN nm x n < n ∧ (0 ≤ fndN nm x n → nm (fndN nm x n) = x)
  | 0 => ⟨Int.le_refl _, by show (-1 : Int) < 0; decide, fun h => absurd h (by show ¬ (0 : Int) ≤ -1; decide)⟩
  | n + 1 => by
    have ih := fndN_lt (nm := nm) (x := x) n
    show -1 ≤ (if nm n = x then (n : Int) else fndN nm x n) ∧ (if nm n = x then (n : Int) else fndN nm x n) < ((n + 1 : Nat) : Int) ∧ (0 ≤ (if nm n = x then (n : Int) else fndN nm x n) → nm (if nm n = x then (n : Int) else fndN nm x n) = x)
    split
    · next hc => exact ⟨by omega, by omega, fun _ => hc⟩
    · exact ⟨ih.1, by omega, ih.2.2⟩
theorem fndN_no {nm : Int → Int} {x : Int} : ∀ n : Nat, fndN nm x n = -1 → ∀ k : Int, 0 ≤ k → k < n → nm k ≠ x
  | 0, _, k, h1, h2 => by omega
  | n + 1, h, k, h1, h2 => by
    have h : (if nm n = x then (n : Int) else fndN nm x n) = -1 := h
    split at h
    · omega
    · next hc =>
      by_cases hk : k = n
      · subst hk; exact hc
      · exact fndN_no n h k h1 (by omega)
theorem fnd_lt {I : Nat → Int → Int} {x : Int} (ht : 0 ≤ I 94 0) : -1 ≤ fnd I x ∧ fnd I x < I 94 0 ∧ (0 ≤ fnd I x → I 98 (fnd I x) = x) := by
  have := fndN_lt (nm := I 98) (x := x) (I 94 0).toNat
  rw [Int.toNat_of_nonneg ht] at this
  exact this
theorem r166 {h : HP} {I : Nat → Int → Int} {x : Int} (L : LX 11 h 94) (ht : 0 ≤ I 94 0 ∧ I 94 0 ≤ 120) : Go 166 0 [.inr (.inl (some 94)), .inl x] [] (mI h I) = some (mI h I, .inl (some (.inl (b01 (0 ≤ fnd I x))))) := by
  by_cases h1 : fnd I x < 0
  · rw [b01_f (by omega)]
    simp (disch := first | assumption | omega | (simp only [rowU, Nat.reduceEqDiff, ↓reduceIte]; omega)) only [ne_eq, not_true_eq_false, not_false_eq_true, if_true, if_false, ite_true, ite_false, caln_v, caln_r, caln_x, zero_ne_one_I, one_ne_zero_I, b166_0, b166_3, b166_4, b166_6, b166_7, r165, h1]
  · rw [b01_t (by omega)]
    simp (disch := first | assumption | omega | (simp only [rowU, Nat.reduceEqDiff, ↓reduceIte]; omega)) only [ne_eq, not_true_eq_false, not_false_eq_true, if_true, if_false, ite_true, ite_false, caln_v, caln_r, caln_x, zero_ne_one_I, one_ne_zero_I, b166_0, b166_3, b166_4, b166_6, b166_7, r165, h1]
theorem r167 {h : HP} {I : Nat → Int → Int} {x : Int} (L : LX 11 h 94) (ht : 0 ≤ I 94 0 ∧ I 94 0 ≤ 120) : Go 167 0 [.inr (.inl (some 94)), .inl x] [] (mI h I) = some (mI h I, .inl (some (.inl (b01 (x = -1 ∨ 0 ≤ fnd I x))))) := by
  by_cases h1 : x = -1
  · rw [b01_t (Or.inl h1)]
    simp (disch := first | assumption | omega | (simp only [rowU, Nat.reduceEqDiff, ↓reduceIte]; omega)) only [ne_eq, not_true_eq_false, not_false_eq_true, if_true, if_false, ite_true, ite_false, caln_v, caln_r, caln_x, zero_ne_one_I, one_ne_zero_I, b167_0, b167_3, b167_6, b167_7, b167_9, b167_10, h1]
  · by_cases h2 : 0 ≤ fnd I x
    · rw [b01_t (Or.inr h2)]
      simp (disch := first | assumption | omega | (simp only [rowU, Nat.reduceEqDiff, ↓reduceIte]; omega)) only [ne_eq, not_true_eq_false, not_false_eq_true, if_true, if_false, ite_true, ite_false, caln_v, caln_r, caln_x, zero_ne_one_I, one_ne_zero_I, b167_0, b167_3, b167_6, b167_7, b167_9, b167_10, r166, h1, b01_t h2]
    · rw [b01_f (by omega)]
      simp (disch := first | assumption | omega | (simp only [rowU, Nat.reduceEqDiff, ↓reduceIte]; omega)) only [ne_eq, not_true_eq_false, not_false_eq_true, if_true, if_false, ite_true, ite_false, caln_v, caln_r, caln_x, zero_ne_one_I, one_ne_zero_I, b167_0, b167_3, b167_6, b167_7, b167_9, b167_10, r166, h1, b01_f h2]
theorem r168 {h : HP} {I : Nat → Int → Int} {x c : Int} (L : LX 11 h 94) (ht : 0 ≤ I 94 0 ∧ I 94 0 ≤ 120) : Go 168 0 [.inr (.inl (some 94)), .inl x, .inl c] [] (mI h I) = some (mI h I, .inl (some (.inl (b01 (0 ≤ fnd I x ∧ I 95 (fnd I x) = c))))) := by
  have hf := fnd_lt (x := x) ht.1
  by_cases h2 : 0 ≤ fnd I x
  · by_cases h3 : I 95 (fnd I x) = c
    · rw [b01_t ⟨h2, h3⟩]
      simp (disch := first | assumption | omega | (simp only [rowU, Nat.reduceEqDiff, ↓reduceIte]; omega)) only [ne_eq, not_true_eq_false, not_false_eq_true, if_true, if_false, ite_true, ite_false, caln_v, caln_r, caln_x, zero_ne_one_I, one_ne_zero_I, b168_0, b168_3, b168_4, b168_9, b168_12, b168_14, b168_15, r166, r165, b01_t h2, h3]
    · rw [b01_f (fun q => h3 q.2)]
      simp (disch := first | assumption | omega | (simp only [rowU, Nat.reduceEqDiff, ↓reduceIte]; omega)) only [ne_eq, not_true_eq_false, not_false_eq_true, if_true, if_false, ite_true, ite_false, caln_v, caln_r, caln_x, zero_ne_one_I, one_ne_zero_I, b168_0, b168_3, b168_4, b168_9, b168_12, b168_14, b168_15, r166, r165, b01_t h2, h3]
  · rw [b01_f (fun q => h2 q.1)]
    simp (disch := first | assumption | omega | (simp only [rowU, Nat.reduceEqDiff, ↓reduceIte]; omega)) only [ne_eq, not_true_eq_false, not_false_eq_true, if_true, if_false, ite_true, ite_false, caln_v, caln_r, caln_x, zero_ne_one_I, one_ne_zero_I, b168_0, b168_3, b168_4, b168_9, b168_12, b168_14, b168_15, r166, b01_f h2]
def atR (I : Nat → Int → Int) (o j : Int) : Int := fnd I (I 97 (12 * o + j))
theorem r169 {h : HP} {I : Nat → Int → Int} {o j : Int} (L : LX 11 h 94) (ht : 0 ≤ I 94 0 ∧ I 94 0 ≤ 120) (ho : 0 ≤ o ∧ o < 120) (hj : 0 ≤ j ∧ j < 12) : Go 169 0 [.inr (.inl (some 94)), .inl o, .inl j] [] (mI h I) = some (mI h I, .inl (some (.inl (atR I o j)))) := by
  simp (disch := first | assumption | omega | (simp only [rowU, Nat.reduceEqDiff, ↓reduceIte]; omega)) only [ne_eq, not_true_eq_false, not_false_eq_true, if_true, if_false, ite_true, ite_false, caln_v, caln_r, caln_x, zero_ne_one_I, one_ne_zero_I, b169_0, b169_10, r165, atR]
theorem r170 {h : HP} {I : Nat → Int → Int} {P : Int → Prop} {x : Int} {v : MV} (L : LX 11 h 94) (hx : 0 ≤ x ∧ x < 120) : Go 170 0 [.inr (.inl (some 94)), .inl x, v] [] (mI h (rowU I 133 (ind P))) = some (mI h (rowU I 133 (ind (fun j => P j ∨ j = x))), .inl (some (.inl (b01 (¬P x))))) := by
  by_cases hp : P x
  · rw [b01_f (fun q => q hp)]
    simp (disch := first | assumption | omega | (simp only [rowU, Nat.reduceEqDiff, ↓reduceIte]; omega)) only [ne_eq, not_true_eq_false, not_false_eq_true, if_true, if_false, ite_true, ite_false, caln_v, caln_r, caln_x, zero_ne_one_I, one_ne_zero_I, b170_0, b170_5, b170_7, rowU_eq, ind, b01_t hp]
    rw [b170_8 L hx (Or.inl rfl), zu2_row, rowU_eq, rowU_tw, ← up1_ind1]
  · rw [b01_t hp]
    simp (disch := first | assumption | omega | (simp only [rowU, Nat.reduceEqDiff, ↓reduceIte]; omega)) only [ne_eq, not_true_eq_false, not_false_eq_true, if_true, if_false, ite_true, ite_false, caln_v, caln_r, caln_x, zero_ne_one_I, one_ne_zero_I, b170_0, b170_5, b170_7, rowU_eq, ind, b01_f hp]
    rw [b170_8 L hx (Or.inr rfl), zu2_row, rowU_eq, rowU_tw, ← up1_ind1]
