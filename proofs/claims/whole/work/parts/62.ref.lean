/-! ===== the reference's methods (13): references become ===== -/
def bC (I : Nat → Int → Int) (k x : Int) : Nat → Int → Int :=
  rowU (rowU (rowU (rowU (rowU I 123 (up1 (I 123) (600 * (k / 6) + I 119 (k / 6)) (I 115 k))) 124 (up1 (I 124) (600 * (k / 6) + I 119 (k / 6)) x)) 125 (up1 (I 125) (600 * (k / 6) + I 119 (k / 6)) (I 94 8))) 119 (up1 (I 119) (k / 6) (I 119 (k / 6) + 1))) 115 (up1 (I 115) k x)
/-- a reference becomes another, with a log */ -/
def bE (I : Nat → Int → Int) (k x : Int) : Nat → Int → Int := if I 115 k = x then I else bC I k x
theorem r218 {h : HP} {I : Nat → Int → Int} {k x : Int} {v3 v4 : MV} (L : LX 11 h 94) (hk : 0 ≤ k ∧ k < 12) (hl : 0 ≤ I 119 (k / 6) ∧ I 119 (k / 6) < 600) : Go 218 0 [.inr (.inl (some 94)), .inl k, .inl x, v3, v4] [] (mI h I) = some (mI h (bE I k x), .inl none) := by
  rw [b218_0 hk.1 L hk]
  unfold bE
  by_cases hx : I 115 k = x
  · rw [if_pos hx, if_pos hx, b218_51]
  · rw [if_neg hx, if_neg hx, b218_10 (by omega) L (by omega) (by omega) hk (by omega) (by simp only [zu2_row, rowU, Nat.reduceEqDiff, ↓reduceIte]; omega), b218_51]
    simp only [zu2_row, rowU, Nat.reduceEqDiff, ↓reduceIte]
    rfl
def x1 (I : Nat → Int → Int) (s k old now : Int) : Prop := (s = 0 ∨ s = 1) ∧ (0 ≤ k ∧ k ≤ 5) ∧ (old = -1 ∨ 0 ≤ fnd I old) ∧ (now = -1 ∨ 0 ≤ fnd I now)
def x2 (I : Nat → Int → Int) (s k now : Int) : Prop := (now = -1 ∨ 2 ≤ I 95 (fnd I now)) ∧ I 129 (6 * s + k) = 0
def eX (I : Nat → Int → Int) (s k old now : Int) : Nat → Int → Int :=
  rowU (rowU (rowU I 129 (up1 (I 129) (6 * s + k) 1)) 130 (up1 (I 130) (6 * s + k) (fnd I old + 1))) 131 (up1 (I 131) (6 * s + k) (fnd I now + 1))
noncomputable def eN (I : Nat → Int → Int) (s : Int) : Int := cN (fun i => I 129 (6 * s + i) ≠ 0) 6
theorem r217a {h : HP} {J : Nat → Int → Int} {s k o n z : Int} (L : LX 11 h 94) (hs : s = 0 ∨ s = 1) : Go 217 85 [.inr (.inl (some 94)), .inl s, .inl k, .inl o, .inl n, .inl z, .inl 0, .inl (6 * s)] [] (mI h J) = some (mI h J, .inl (some (.inl (eN J s)))) := by
  have key := lpU (fun i => Go 217 85 [.inr (.inl (some 94)), .inl s, .inl k, .inl o, .inl n, .inl z, .inl (cN (fun i => J 129 (6 * s + i) ≠ 0) i.toNat), .inl (6 * s + i)] [] (mI h J)) 0 6 (by omega) ?_
  · rw [Int.add_zero] at key
    refine Eq.trans key ?_
    rw [b217_85 (by omega) (by omega), if_pos (Int.le_refl _), b217_105]
    rfl
  · intro i h0 h1
    have hc := cN_b (P := fun i => J 129 (6 * s + i) ≠ 0) i.toNat
    rw [b217_85 (by omega) (by omega), if_neg (by omega), b217_92 L (by omega), cN_s h0]
    by_cases hz : J 129 (6 * s + i) = 0
    · rw [if_pos hz, b217_100, b217_101 (by omega) (by omega), b01_f (p := J 129 (6 * s + i) ≠ 0) (fun q => q hz), Int.add_assoc]
    · rw [if_neg hz, b217_98, b217_101 (by omega) (by omega), b01_t (p := J 129 (6 * s + i) ≠ 0) hz, Int.add_assoc]
