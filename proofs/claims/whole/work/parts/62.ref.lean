/-! ===== the reference's methods (13): references become ===== -/
def bC (I : Nat → Int → Int) (k x : Int) : Nat → Int → Int :=
  rowU (rowU (rowU (rowU (rowU I 123 (up1 (I 123) (600 * (k / 6) + I 119 (k / 6)) (I 115 k))) 124 (up1 (I 124) (600 * (k / 6) + I 119 (k / 6)) x)) 125 (up1 (I 125) (600 * (k / 6) + I 119 (k / 6)) (I 94 8))) 119 (up1 (I 119) (k / 6) (I 119 (k / 6) + 1))) 115 (up1 (I 115) k x)
/-- a reference becomes another, with a log */ -/
def bE (I : Nat → Int → Int) (k x : Int) : Nat → Int → Int := if I 115 k = x then I else bC I k x
theorem r218 {h : HP} {I : Nat → Int → Int} {k x : Int} {v3 v4 : MV} (L : LX 11 h 94) (hk : 0 ≤ k ∧ k < 12) (hl : 0 ≤ I 119 (k / 6) ∧ I 119 (k / 6) < 600) : Go 218 0 [.inr (.inl (some 94)), .inl k, .inl x, v3, v4] [] (mI h I) = some (mI h (bE I k x), .inl none) := by
  rw [b218_0 hk.1 L hk]
  unfold bE
  by_cases hx : I 115 k = x
  · rw [if_pos hx, if_pos hx, b218_51]
  · rw [if_neg hx, if_neg hx, b218_10 (by omega) L (by omega) (by omega) hk (by omega) (by simp only [zu2_row, rowU, Nat.reduceEqDiff, ↓reduceIte]; omega), b218_51]
    simp only [zu2_row, rowU, Nat.reduceEqDiff, ↓reduceIte]
    rfl
