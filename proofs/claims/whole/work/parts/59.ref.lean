/-! ===== the reference's methods (10): crash, time ===== -/
theorem r162 {h : HP} {I : Nat → Int → Int} (L : LX 11 h 94) : Go 162 0 [.inr (.inl (some 94))] [] (mI h I) = some (mI h I, .inl (some (.inl (I 94 49)))) := by
  rw [b162_0 L]
/-- deeds that were not synced are of known kinds, of what there is -/
def WQ (I : Nat → Int → Int) : Prop := ∀ s k, s = 0 ∨ s = 1 → 0 ≤ k → k < I 104 s → (0 ≤ I 105 (30 * s + k) ∧ I 105 (30 * s + k) ≤ 4) ∧ (I 105 (30 * s + k) = 0 ∨ I 105 (30 * s + k) = 2 → 0 ≤ I 106 (30 * s + k) ∧ I 106 (30 * s + k) < 120) ∧ (I 105 (30 * s + k) = 1 ∨ I 105 (30 * s + k) = 3 → 0 ≤ I 106 (30 * s + k) ∧ I 106 (30 * s + k) < 40)
def kD (I : Nat → Int → Int) (s k : Int) : Nat → Int → Int :=
  if I 105 (30 * s + k) = 0 then rowU (rowU I 102 (up1 (I 102) (120 * s + I 106 (30 * s + k)) 1)) 103 (up1 (I 103) (120 * s + I 106 (30 * s + k)) (I 107 (30 * s + k)))
  else if I 105 (30 * s + k) = 1 then rowU I 110 (up1 (I 110) (I 106 (30 * s + k)) 1)
  else if I 105 (30 * s + k) = 2 then rowU I 102 (up1 (I 102) (120 * s + I 106 (30 * s + k)) 0)
  else if I 105 (30 * s + k) = 3 then rowU I 110 (up1 (I 110) (I 106 (30 * s + k)) 0)
  else I
theorem zsw0 : (zsw.getD 0 []) = [18, 44, 50, 60] := by decide +kernel
theorem r213 {h : HP} {I : Nat → Int → Int} {s k : Int} {v3 : MV} (L : LX 11 h 94) (hs : s = 0 ∨ s = 1) (hk : 0 ≤ k ∧ k < 30) (hb : ∀ j, I 107 j = 0 ∨ I 107 j = 1)
    (q : (0 ≤ I 105 (30 * s + k) ∧ I 105 (30 * s + k) ≤ 4) ∧ (I 105 (30 * s + k) = 0 ∨ I 105 (30 * s + k) = 2 → 0 ≤ I 106 (30 * s + k) ∧ I 106 (30 * s + k) < 120) ∧ (I 105 (30 * s + k) = 1 ∨ I 105 (30 * s + k) = 3 → 0 ≤ I 106 (30 * s + k) ∧ I 106 (30 * s + k) < 40)) :
    Go 213 0 [.inr (.inl (some 94)), .inl s, .inl k, v3] [] (mI h I) = some (mI h (kD I s k), .inl none) := by
  obtain ⟨q0, q1, q2⟩ := q
  rw [b213_0 L (by omega) (by omega) (by omega), zsw0]
  unfold kD
  by_cases h0 : I 105 (30 * s + k) = 0
  · have w := q1 (Or.inl h0)
    rw [if_pos h0, h0]
    show Go 213 18 _ _ _ = _
    rw [b213_18 L (by omega) (by omega) (by omega) (by omega) (by omega) (by omega) (by simp only [zu2_row, rowU, Nat.reduceEqDiff, ↓reduceIte]; exact hb _), b213_66]
    simp only [zu2_row, rowU, Nat.reduceEqDiff, ↓reduceIte]
  · rw [if_neg h0]
    by_cases h1 : I 105 (30 * s + k) = 1
    · have w := q2 (Or.inl h1)
      rw [if_pos h1, h1]
      show Go 213 44 _ _ _ = _
      rw [b213_44 L (by omega), b213_66, zu2_row]
    · rw [if_neg h1]
      by_cases h2 : I 105 (30 * s + k) = 2
      · have w := q1 (Or.inr h2)
        rw [if_pos h2, h2]
        show Go 213 50 _ _ _ = _
        rw [b213_50 L (by omega) (by omega) (by omega), b213_66, zu2_row]
      · rw [if_neg h2]
        by_cases h3 : I 105 (30 * s + k) = 3
        · have w := q2 (Or.inr h3)
          rw [if_pos h3, h3]
          show Go 213 60 _ _ _ = _
          rw [b213_60 L (by omega), b213_66, zu2_row]
        · have h4 : I 105 (30 * s + k) = 4 := by omega
          rw [if_neg h3, h4]
          show Go 213 66 _ _ _ = _
          rw [b213_66]
theorem up1_id {f : Int → Int} {k v : Int} (h : f k = v) : up1 f k v = f := by
  funext j
  unfold up1
  split
  · next hj => rw [hj, h]
  · rfl
theorem r215 {h : HP} {I : Nat → Int → Int} {x : Int} (L : LX 11 h 94) (ht : 0 ≤ I 94 8 ∧ I 94 8 ≤ 1000000) : Go 215 0 [.inr (.inl (some 94)), .inl x] [] (mI h I) = aq h (1 ≤ x ∧ x ≤ 100) (rowU (tH I 0) 94 (up1 (tH I 0 94) 8 (I 94 8 + x))) (I 94 8 + x) I 1 := by
  have e8 : ∀ t, tH I t 94 8 = I 94 8 := fun t => tH_94 (by decide)
  have e49 : ∀ t y, zu2 (tH I t) 94 8 y 94 49 = t := fun t y => by rw [zu2_row, rowU_eq, up1_ne (by decide), tH_49]
  rw [b215_0, r163, caln_r, b215_5]
  by_cases hx : 1 ≤ x ∧ x ≤ 100
  · rw [aq_t hx, b01_t hx, if_neg neg1_ne, b215_6, b215_9 L, zu2_tI, tH_49, if_pos (by decide), e8, b215_18, b215_19 (by omega) L, e49, if_pos (by decide), b215_26 L, b215_28, zu2_row, rowU_eq, up1_eq]
  · rw [aq_f hx, b01_f hx, if_pos rfl, b215_8, b215_9 L, zu2_tI, tH_49, if_neg (by decide), e8, b215_16, b215_19 (by omega) L, e49, if_neg (by decide), b215_24, b215_28, zu2_row, up1_id (by rw [e8, Int.add_zero]), rowU_id]
theorem r216 {h : HP} {I : Nat → Int → Int} {x : Int} : Go 216 0 [.inl x] [] (mI h I) = some (mI h I, .inl (some (.inl (b01 (0 ≤ x ∧ x ≤ 5))))) := by
  rw [b216_0, r163, caln_r, b216_4 (b01_or _)]
