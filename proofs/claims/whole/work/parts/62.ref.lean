/-! ===== the reference's methods (13): references become ===== -/
def bC (I : Nat → Int → Int) (k x : Int) : Nat → Int → Int :=
  rowU (rowU (rowU (rowU (rowU I 123 (up1 (I 123) (600 * (k / 6) + I 119 (k / 6)) (I 115 k))) 124 (up1 (I 124) (600 * (k / 6) + I 119 (k / 6)) x)) 125 (up1 (I 125) (600 * (k / 6) + I 119 (k / 6)) (I 94 8))) 119 (up1 (I 119) (k / 6) (I 119 (k / 6) + 1))) 115 (up1 (I 115) k x)
/-- a reference becomes another, with a log */ -/
def bE (I : Nat → Int → Int) (k x : Int) : Nat → Int → Int := if I 115 k = x then I else bC I k x
theorem r218 {h : HP} {I : Nat → Int → Int} {k x : Int} {v3 v4 : MV} (L : LX 11 h 94) (hk : 0 ≤ k ∧ k < 12) (hl : 0 ≤ I 119 (k / 6) ∧ I 119 (k / 6) < 600) : Go 218 0 [.inr (.inl (some 94)), .inl k, .inl x, v3, v4] [] (mI h I) = some (mI h (bE I k x), .inl none) := by
  rw [b218_0 hk.1 L hk]
  unfold bE
  by_cases hx : I 115 k = x
  · rw [if_pos hx, if_pos hx, b218_51]
  · rw [if_neg hx, if_neg hx, b218_10 (by omega) L (by omega) (by omega) hk (by omega) (by simp only [zu2_row, rowU, Nat.reduceEqDiff, ↓reduceIte]; omega), b218_51]
    simp only [zu2_row, rowU, Nat.reduceEqDiff, ↓reduceIte]
    rfl
def x1 (I : Nat → Int → Int) (s k old now : Int) : Prop := (s = 0 ∨ s = 1) ∧ (0 ≤ k ∧ k ≤ 5) ∧ (old = -1 ∨ 0 ≤ fnd I old) ∧ (now = -1 ∨ 0 ≤ fnd I now)
def x2 (I : Nat → Int → Int) (s k now : Int) : Prop := (now = -1 ∨ 2 ≤ I 95 (fnd I now)) ∧ I 129 (6 * s + k) = 0
def eX (I : Nat → Int → Int) (s k old now : Int) : Nat → Int → Int :=
  rowU (rowU (rowU I 129 (up1 (I 129) (6 * s + k) 1)) 130 (up1 (I 130) (6 * s + k) (fnd I old + 1))) 131 (up1 (I 131) (6 * s + k) (fnd I now + 1))
noncomputable def eN (I : Nat → Int → Int) (s : Int) : Int := cN (fun i => I 129 (6 * s + i) ≠ 0) 6
theorem r217a {h : HP} {J : Nat → Int → Int} {s k o n z : Int} (L : LX 11 h 94) (hs : s = 0 ∨ s = 1) : Go 217 85 [.inr (.inl (some 94)), .inl s, .inl k, .inl o, .inl n, .inl z, .inl 0, .inl (6 * s)] [] (mI h J) = some (mI h J, .inl (some (.inl (eN J s)))) := by
  have key := lpU (fun i => Go 217 85 [.inr (.inl (some 94)), .inl s, .inl k, .inl o, .inl n, .inl z, .inl (cN (fun i => J 129 (6 * s + i) ≠ 0) i.toNat), .inl (6 * s + i)] [] (mI h J)) 0 6 (by omega) ?_
  · rw [Int.add_zero] at key
    refine Eq.trans key ?_
    rw [b217_85 (by omega) (by omega), if_pos (Int.le_refl _), b217_105]
    rfl
  · intro i h0 h1
    have hc := cN_b (P := fun i => J 129 (6 * s + i) ≠ 0) i.toNat
    rw [b217_85 (by omega) (by omega), if_neg (by omega), b217_92 L (by omega), cN_s h0]
    by_cases hz : J 129 (6 * s + i) = 0
    · rw [if_pos hz, b217_100, b217_101 (by omega) (by omega), b01_f (p := J 129 (6 * s + i) ≠ 0) (fun q => q hz), Int.add_assoc]
    · rw [if_neg hz, b217_98, b217_101 (by omega) (by omega), b01_t (p := J 129 (6 * s + i) ≠ 0) hz, Int.add_assoc]
theorem r217 {h : HP} {I : Nat → Int → Int} {s k old now : Int} {w5 w6 w7 : MV} (L : LX 11 h 94) (ht : 0 ≤ I 94 0 ∧ I 94 0 ≤ 120) :
    Go 217 0 [.inr (.inl (some 94)), .inl s, .inl k, .inl old, .inl now, w5, w6, w7] [] (mI h I) = @ite _ (x1 I s k old now) (Classical.propDecidable _) (aq h (x2 I s k now) (eX (tH I 0) s k old now) (eN (eX (tH I 0) s k old now) s) I 2) (some (mI h (tH I 1), .inl (some (.inl 0)))) := by
  have e0 : tH I 0 94 0 = I 94 0 := tH_94 (by decide)
  have ht2 : 0 ≤ tH I 0 94 0 ∧ tH I 0 94 0 ≤ 120 := by rw [e0]; exact ht
  have bad : Go 217 17 [.inr (.inl (some 94)), .inl s, .inl k, .inl old, .inl now, w5, w6, w7] [.inr (.inl (some 94))] (mI h I) = some (mI h (tH I 1), .inl (some (.inl 0))) := by
    rw [b217_17, b217_18 L, zu2_tI, tH_49, if_neg (by decide), b217_22]
  rw [b217_0, r164, caln_r, b217_3]
  by_cases hs : s = 0 ∨ s = 1
  · rw [b01_t hs, if_neg neg1_ne, b217_4, r216, caln_r, b217_6]
    by_cases hk : 0 ≤ k ∧ k ≤ 5
    · rw [b01_t hk, if_neg neg1_ne, b217_7 L, r167 L ht, caln_r, b217_10]
      by_cases ho : old = -1 ∨ 0 ≤ fnd I old
      · rw [b01_t ho, if_neg neg1_ne, b217_11 L, r167 L ht, caln_r, b217_14]
        by_cases hn : now = -1 ∨ 0 ≤ fnd I now
        · rw [b01_t hn, if_neg neg1_ne, b217_15, b217_18 L, zu2_tI, tH_49, if_pos (by decide), if_pos (show x1 I s k old now from ⟨hs, hk, ho, hn⟩)]
          have hf := fnd_lt (I := I) (x := now) ht.1
          have hfo := fnd_lt (I := I) (x := old) ht.1
          have bad2 : Go 217 47 [.inr (.inl (some 94)), .inl s, .inl k, .inl old, .inl now, .inl (6 * s + k), w6, w7] [.inr (.inl (some 94))] (mI h (tH I 0)) = some (mI h (tH I 2), .inl (some (.inl 0))) := by
            rw [b217_47, b217_50 L, zu2_tH, tH_49, if_neg (by decide), b217_54]
          have mid : (now = -1 ∨ 2 ≤ I 95 (fnd I now)) → Go 217 42 [.inr (.inl (some 94)), .inl s, .inl k, .inl old, .inl now, .inl (6 * s + k), w6, w7] [.inr (.inl (some 94))] (mI h (tH I 0)) = aq h (x2 I s k now) (eX (tH I 0) s k old now) (eN (eX (tH I 0) s k old now) s) I 2 := by
            intro hq
            rw [b217_42 L (by omega), tH_n (by decide)]
            by_cases hx : I 129 (6 * s + k) = 0
            · rw [if_pos hx, aq_t (show x2 I s k now from ⟨hq, hx⟩), b217_49, b217_50 L, zu2_tH, tH_49, if_pos (by decide), b217_56 L (by omega), zu2_row]
              rw [r165 (I := rowU (tH I 0) 129 _) L ht2]
              have f1 : fnd (rowU (tH I 0) 129 (up1 (tH I 0 129) (6 * s + k) 1)) old = fnd I old := fnd_tH (I := I) (x := 0)
              rw [f1, caln_r, b217_67 (by omega) L (by omega), zu2_row, r165 (I := rowU (rowU (tH I 0) 129 _) 130 _) L ht2]
              have f2 : fnd (rowU (rowU (tH I 0) 129 (up1 (tH I 0 129) (6 * s + k) 1)) 130 (up1 (rowU (tH I 0) 129 (up1 (tH I 0 129) (6 * s + k) 1) 130) (6 * s + k) (fnd I old + 1))) now = fnd I now := fnd_tH (I := I) (x := 0)
              rw [f2, caln_r, b217_76 (by omega) L (by omega) (by omega), zu2_row]
              have e3 : (rowU (rowU (rowU (tH I 0) 129 (up1 (tH I 0 129) (6 * s + k) 1)) 130 (up1 (rowU (tH I 0) 129 (up1 (tH I 0 129) (6 * s + k) 1) 130) (6 * s + k) (fnd I old + 1))) 131 (up1 (rowU (rowU (tH I 0) 129 (up1 (tH I 0 129) (6 * s + k) 1)) 130 (up1 (rowU (tH I 0) 129 (up1 (tH I 0 129) (6 * s + k) 1) 130) (6 * s + k) (fnd I old + 1)) 131) (6 * s + k) (fnd I now + 1))) = eX (tH I 0) s k old now := by
                unfold eX
                rw [fnd_tH, fnd_tH]
                rfl
              rw [e3, r217a L hs]
            · rw [if_neg hx, aq_f (show ¬ x2 I s k now from fun q => hx q.2), bad2]
          rw [b217_24 (by omega) (by omega)]
          by_cases h1 : now = -1
          · rw [if_pos h1, mid (Or.inl h1)]
          · have hn2 := hn.resolve_left h1
            rw [if_neg h1, b217_34 L, r165 L ht2, fnd_tH, caln_r, b217_39 L (by omega), tH_n (by decide)]
            by_cases h2 : I 95 (fnd I now) < 2
            · rw [if_pos h2, bad2, aq_f (fun q => q.1.elim h1 (fun q => by omega))]
            · rw [if_neg h2, mid (Or.inr (by omega))]
        · rw [b01_f hn, if_pos rfl, bad, if_neg (fun q => hn q.2.2.2)]
      · rw [b01_f ho, if_pos rfl, bad, if_neg (fun q => ho q.2.2.1)]
    · rw [b01_f hk, if_pos rfl, bad, if_neg (fun q => hk q.2.1)]
  · rw [b01_f hs, if_pos rfl, bad, if_neg (fun q => hs q.1)]
