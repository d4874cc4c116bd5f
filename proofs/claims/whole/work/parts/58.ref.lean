/-! ===== the reference's methods (9): what is asked ===== -/
/-- an answer, or what was thrown -/
noncomputable def aq (h : HP) (p : Prop) (J : Nat → Int → Int) (x : Int) (I : Nat → Int → Int) (t : Int) : Option (HP × OUT) := @ite _ p (Classical.propDecidable _) (some (mI h J, .inl (some (.inl x)))) (some (mI h (tH I t), .inl (some (.inl 0))))
theorem aq_t {h : HP} {p : Prop} {J I : Nat → Int → Int} {x t : Int} (hp : p) : aq h p J x I t = some (mI h J, .inl (some (.inl x))) := if_pos hp
theorem aq_f {h : HP} {p : Prop} {J I : Nat → Int → Int} {x t : Int} (hp : ¬p) : aq h p J x I t = some (mI h (tH I t), .inl (some (.inl 0))) := if_neg hp
theorem r201 {h : HP} {I : Nat → Int → Int} (L : LX 11 h 94) : Go 201 0 [.inr (.inl (some 94))] [] (mI h I) = some (mI h (tH I 0), .inl (some (.inl (I 94 0)))) := by
  rw [b201_0 L, zu2_tI, tH_94 (by decide)]
theorem r202 {h : HP} {I : Nat → Int → Int} {x : Int} (L : LX 11 h 94) (ht : 0 ≤ I 94 0 ∧ I 94 0 ≤ 120) : Go 202 0 [.inr (.inl (some 94)), .inl x] [] (mI h I) = aq h (0 ≤ fnd I x) (tH I 0) 1 I 1 := by
  rw [b202_0 L, r166 L ht, caln_r, b202_4]
  by_cases hx : 0 ≤ fnd I x
  · rw [aq_t hx, b01_t hx, if_neg neg1_ne, b202_5, b202_8 L, zu2_tI, tH_49, if_neg (fun q => q rfl), b202_12, b202_15 (Or.inr rfl)]
  · rw [aq_f hx, b01_f hx, if_pos rfl, b202_7, b202_8 L, zu2_tI, tH_49, if_pos (by decide), b202_14, b202_15 (Or.inl rfl)]
theorem r203 {h : HP} {I : Nat → Int → Int} {x : Int} (L : LX 11 h 94) (ht : 0 ≤ I 94 0 ∧ I 94 0 ≤ 120) : Go 203 0 [.inr (.inl (some 94)), .inl x] [] (mI h I) = aq h (0 ≤ fnd I x) (tH I 0) (I 95 (fnd I x)) I 1 := by
  have hf := fnd_lt (I := I) (x := x) ht.1
  rw [b203_0 L, r202 L ht]
  by_cases hx : 0 ≤ fnd I x
  · rw [aq_t hx, aq_t hx, caln_r, b203_3, if_neg neg1_ne, b203_4 L, r165 L (by rw [tH_94 (by decide)]; exact ht), fnd_tH, caln_r, b203_9 L (by omega), tH_n (by decide), b203_12]
  · rw [aq_f hx, aq_f hx, caln_r, b203_3, if_pos rfl, b203_11, b203_12]
theorem r204 {h : HP} {I : Nat → Int → Int} {x : Int} (L : LX 11 h 94) (ht : 0 ≤ I 94 0 ∧ I 94 0 ≤ 120) : Go 204 0 [.inr (.inl (some 94)), .inl x] [] (mI h I) = aq h (0 ≤ fnd I x) (tH I 0) (I 96 (fnd I x)) I 1 := by
  have hf := fnd_lt (I := I) (x := x) ht.1
  rw [b204_0 L, r202 L ht]
  by_cases hx : 0 ≤ fnd I x
  · rw [aq_t hx, aq_t hx, caln_r, b204_3, if_neg neg1_ne, b204_4 L, r165 L (by rw [tH_94 (by decide)]; exact ht), fnd_tH, caln_r, b204_9 L (by omega), tH_n (by decide), b204_12]
  · rw [aq_f hx, aq_f hx, caln_r, b204_3, if_pos rfl, b204_11, b204_12]
def hP (I : Nat → Int → Int) (x j : Int) : Prop := 0 ≤ fnd I x ∧ 0 ≤ j ∧ j < I 96 (fnd I x)
theorem r205 {h : HP} {I : Nat → Int → Int} {x j : Int} (L : LX 11 h 94) (W : WB I) : Go 205 0 [.inr (.inl (some 94)), .inl x, .inl j] [] (mI h I) = some (mI h I, .inl (some (.inl (b01 (hP I x j))))) := by
  have ht := WB_t W
  have hf := fnd_lt (I := I) (x := x) ht.1
  rw [b205_0 L, r166 L ht, caln_r, b205_3]
  by_cases hx : 0 ≤ fnd I x
  · have hw := (W.2 _ hx hf.2.1).1
    rw [b01_t hx, if_neg neg1_ne, b205_4 L, r165 L ht, caln_r, b205_11 L (by omega) (by omega), r163, caln_r, b205_15]
    by_cases hj : 0 ≤ j ∧ j < I 96 (fnd I x)
    · rw [b01_t (p := hP I x j) ⟨hx, hj⟩, b01_t (by omega), if_neg neg1_ne, b205_16, b205_19 (Or.inr rfl)]
    · rw [b01_f (p := hP I x j) (fun q => hj q.2), b01_f (by omega), if_pos rfl, b205_18, b205_19 (Or.inl rfl)]
  · rw [b01_f (p := hP I x j) (fun q => hx q.1), b01_f hx, if_pos rfl, b205_18, b205_19 (Or.inl rfl)]
theorem r206 {h : HP} {I : Nat → Int → Int} {x j : Int} (L : LX 11 h 94) (W : WB I) : Go 206 0 [.inr (.inl (some 94)), .inl x, .inl j] [] (mI h I) = aq h (hP I x j) (tH I 0) (I 97 (12 * fnd I x + j)) I 1 := by
  have ht := WB_t W
  have hf := fnd_lt (I := I) (x := x) ht.1
  rw [b206_0 L, r205 L W, caln_r, b206_5]
  by_cases hx : hP I x j
  · have hw := (W.2 _ hx.1 hf.2.1).1
    have hx1 := hx.1
    have hx2 := hx.2
    rw [aq_t hx, b01_t hx, if_neg neg1_ne, b206_6, b206_9 L, zu2_tI, tH_49, if_pos (by decide), b206_15 L, r165 L (by rw [tH_94 (by decide)]; exact ht), fnd_tH, caln_r, b206_21 (by omega) (by omega) L (by omega), b206_25, tH_n (by decide)]
  · rw [aq_f hx, b01_f hx, if_pos rfl, b206_8, b206_9 L, zu2_tI, tH_49, if_neg (by decide), b206_13, b206_25]
def qI (I : Nat → Int → Int) (s x : Int) : Prop := (s = 0 ∨ s = 1) ∧ 0 ≤ fnd I x
theorem r208 {h : HP} {I : Nat → Int → Int} {s x : Int} (L : LX 11 h 94) (ht : 0 ≤ I 94 0 ∧ I 94 0 ≤ 120) : Go 208 0 [.inr (.inl (some 94)), .inl s, .inl x] [] (mI h I) = aq h (qI I s x) (tH I 0) 1 I 1 := by
  rw [b208_0, r164, caln_r, b208_3]
  have bad : Go 208 10 [.inr (.inl (some 94)), .inl s, .inl x] [.inr (.inl (some 94))] (mI h I) = some (mI h (tH I 1), .inl (some (.inl 0))) := by
    rw [b208_10, b208_11 L, zu2_tI, tH_49, if_pos (by decide), b208_17, b208_18 (Or.inl rfl)]
  by_cases hs : s = 0 ∨ s = 1
  · rw [b01_t hs, if_neg neg1_ne, b208_4 L, r166 L ht, caln_r, b208_7]
    by_cases hx : 0 ≤ fnd I x
    · rw [aq_t (show qI I s x from ⟨hs, hx⟩), b01_t hx, if_neg neg1_ne, b208_8, b208_11 L, zu2_tI, tH_49, if_neg (fun q => q rfl), b208_15, b208_18 (Or.inr rfl)]
    · rw [aq_f (show ¬ qI I s x from fun q => hx q.2), b01_f hx, if_pos rfl, bad]
  · rw [aq_f (show ¬ qI I s x from fun q => hs q.1), b01_f hs, if_pos rfl, bad]
theorem r210 {h : HP} {I : Nat → Int → Int} {s : Int} (L : LX 11 h 94) : Go 210 0 [.inr (.inl (some 94)), .inl s] [] (mI h I) = aq h (s = 0 ∨ s = 1) (tH I 0) 1 I 1 := by
  rw [b210_0, r164, caln_r, b210_3]
  by_cases hs : s = 0 ∨ s = 1
  · rw [aq_t hs, b01_t hs, if_neg neg1_ne, b210_4, b210_7 L, zu2_tI, tH_49, if_neg (fun q => q rfl), b210_11, b210_14 (Or.inr rfl)]
  · rw [aq_f hs, b01_f hs, if_pos rfl, b210_6, b210_7 L, zu2_tI, tH_49, if_pos (by decide), b210_13, b210_14 (Or.inl rfl)]
theorem r211 {h : HP} {I : Nat → Int → Int} {s : Int} (L : LX 11 h 94) (W : WT I) : Go 211 0 [.inr (.inl (some 94)), .inl s] [] (mI h I) = aq h (s = 0 ∨ s = 1) (sY (tH I 0) s) (I 104 s) I 1 := by
  have W2 : WT (tH I 0) := by rw [WT_tH]; exact W
  rw [b211_0 L, r210 L]
  by_cases hs : s = 0 ∨ s = 1
  · rw [aq_t hs, aq_t hs, caln_r, b211_3, if_neg neg1_ne, b211_4 L, r185 L (WB_t W2.1) W2.2.1 W2.2.2.1 W2.2.2.2.2.1 hs, caln_r, b211_7, b211_9, tH_n (by decide)]
  · rw [aq_f hs, aq_f hs, caln_r, b211_3, if_pos rfl, b211_8, b211_9]
theorem r212 {h : HP} {I : Nat → Int → Int} {s : Int} (L : LX 11 h 94) : Go 212 0 [.inr (.inl (some 94)), .inl s] [] (mI h I) = aq h (s = 0 ∨ s = 1) (tH I 0) (I 104 s) I 1 := by
  rw [b212_0 L, r210 L]
  by_cases hs : s = 0 ∨ s = 1
  · rw [aq_t hs, aq_t hs, caln_r, b212_3, if_neg neg1_ne, b212_4 L (by omega), b212_10, tH_n (by decide)]
  · rw [aq_f hs, aq_f hs, caln_r, b212_3, if_pos rfl, b212_9, b212_10]
noncomputable def wV (I : Nat → Int → Int) (s o : Int) : Int := b01 (0 < I 101 (120 * s + o)) + 2 * b01 (HE I s o 0) + 4 * b01 (I 117 (120 * s + o) ≠ 0)
theorem r209 {h : HP} {I : Nat → Int → Int} {s x : Int} {w3 w4 : MV} (L : LX 11 h 94) (ht : 0 ≤ I 94 0 ∧ I 94 0 ≤ 120) (K : WK I) : Go 209 0 [.inr (.inl (some 94)), .inl s, .inl x, w3, w4] [] (mI h I) = aq h (qI I s x) (tH I 0) (wV I s (fnd I x)) I 1 := by
  have hf := fnd_lt (I := I) (x := x) ht.1
  rw [b209_0 L, r208 L ht]
  by_cases hq : qI I s x
  · have hs := hq.1
    have hx := hq.2
    rw [aq_t hq, aq_t hq, caln_r, b209_4, if_pos neg1_ne, b209_7 L, r165 L (by rw [tH_94 (by decide)]; exact ht), fnd_tH, caln_r, b209_10 (by omega) (by omega) L (by omega)]
    have K2 : WK (tH I 0) := K
    have HE2 : HE (tH I 0) = HE I := rfl
    have fin : ∀ p : Prop, Go 209 25 [.inr (.inl (some 94)), .inl s, .inl x, .inl (fnd I x), .inl (120 * s + fnd I x)] [.inl (b01 p)] (mI h (tH I 0)) = some (mI h (tH I 0), .inl (some (.inl (b01 p + 2 * b01 (HE I s (fnd I x) 0) + 4 * b01 (I 117 (120 * s + fnd I x) ≠ 0))))) := by
      intro p
      have b1 := b01_or p
      have b2 := b01_or (HE I s (fnd I x) 0)
      have h33 : Go 209 25 [.inr (.inl (some 94)), .inl s, .inl x, .inl (fnd I x), .inl (120 * s + fnd I x)] [.inl (b01 p)] (mI h (tH I 0)) = Go 209 34 [.inr (.inl (some 94)), .inl s, .inl x, .inl (fnd I x), .inl (120 * s + fnd I x)] [.inl (2 * b01 (HE I s (fnd I x) 0)), .inl (b01 p)] (mI h (tH I 0)) := by
        rw [b209_25 L, r178 L K2 hs, HE2, caln_r, b209_30]
        by_cases he : HE I s (fnd I x) 0
        · rw [b01_t he, if_neg neg1_ne, b209_31]
          rfl
        · rw [b01_f he, if_pos rfl, b209_33]
          rfl
      rw [h33, b209_34 (by omega) L (by omega), tH_n (by decide)]
      by_cases h7 : I 117 (120 * s + fnd I x) = 0
      · rw [if_pos h7, b209_42, b209_43 (by omega), b01_f (p := I 117 (120 * s + fnd I x) ≠ 0) (fun q => q h7)]
        rfl
      · rw [if_neg h7, b209_40, b209_43 (by omega), b01_t (p := I 117 (120 * s + fnd I x) ≠ 0) h7]
        rfl
    unfold wV
    by_cases hl : tH I 0 101 (120 * s + fnd I x) ≤ 0
    · rw [if_pos hl, b209_24]
      have := fin False
      rw [b01_f (fun q => q)] at this
      rw [this, b01_f (p := 0 < I 101 (120 * s + fnd I x)) (fun q => by rw [tH_n (by decide)] at hl; omega)]
    · rw [if_neg hl, b209_22]
      have := fin True
      rw [b01_t trivial] at this
      rw [this, b01_t (p := 0 < I 101 (120 * s + fnd I x)) (by rw [tH_n (by decide)] at hl; omega)]
  · rw [aq_f hq, aq_f hq, caln_r, b209_4, if_neg (fun q => q rfl), b209_5]
/-- a read that goes over the line -/
def rL (I : Nat → Int → Int) (s o : Int) : Prop := I 117 (120 * s + o) ≠ 0 ∧ ¬Th I s o ∧ I 94 9 = 0 ∧ Gd I (1 - s) o
noncomputable def rD (h : HP) (I : Nat → Int → Int) (s o j : Int) : Option (HP × OUT) :=
  @ite _ (Gd I s o) (Classical.propDecidable _) (some (mI h (tH I 0), .inl (some (.inl (I 97 (12 * o + j)))))) (aq h (rL I s o) (wW (tH I 0) s o) (I 97 (12 * o + j)) I 2)
theorem r207 {h : HP} {I : Nat → Int → Int} {s x j : Int} {w4 w5 : MV} (L : LX 11 h 94) (W : WT I) : Go 207 0 [.inr (.inl (some 94)), .inl s, .inl x, .inl j, w4, w5] [] (mI h I) = @ite _ ((s = 0 ∨ s = 1) ∧ hP I x j) (Classical.propDecidable _) (rD h I s (fnd I x) j) (some (mI h (tH I 1), .inl (some (.inl 0)))) := by
  have ht := WB_t W.1
  have hf := fnd_lt (I := I) (x := x) ht.1
  have e0 : tH I 0 94 0 = I 94 0 := tH_94 (by decide)
  have e9 : tH I 0 94 9 = I 94 9 := tH_94 (by decide)
  have W2 : WT (tH I 0) := by rw [WT_tH]; exact W
  have ht2 : 0 ≤ tH I 0 94 0 ∧ tH I 0 94 0 ≤ 120 := by rw [e0]; exact ht
  have G2 : Gd (tH I 0) = Gd I := rfl
  have T2 : Th (tH I 0) = Th I := rfl
  have bad : Go 207 11 [.inr (.inl (some 94)), .inl s, .inl x, .inl j, w4, w5] [.inr (.inl (some 94))] (mI h I) = some (mI h (tH I 1), .inl (some (.inl 0))) := by
    rw [b207_11, b207_12 L, zu2_tI, tH_49, if_neg (by decide), b207_16]
  rw [b207_0, r164, caln_r, b207_3]
  by_cases hs : s = 0 ∨ s = 1
  · rw [b01_t hs, if_neg neg1_ne, b207_4 L, r205 L W.1, caln_r, b207_8]
    by_cases hp : hP I x j
    · have hx := hp.1
      have hj := hp.2
      have hw := (W.1.2 _ hx hf.2.1).1
      rw [b01_t hp, if_neg neg1_ne, b207_9, b207_12 L, zu2_tI, tH_49, if_pos (by decide), if_pos ⟨hs, hp⟩, b207_18 L, r165 L ht2, fnd_tH, caln_r, b207_21 L, r181 L W2.2.2.2.1 W2.2.1 hs (by omega), G2, caln_r, b207_26]
      generalize fnd I x = o at *
      have fin : ∀ (J : Nat → Int → Int) (w : MV), J 97 = I 97 → Go 207 70 [.inr (.inl (some 94)), .inl s, .inl x, .inl j, .inl o, w] [] (mI h J) = some (mI h J, .inl (some (.inl (I 97 (12 * o + j))))) := by
        intro J w e
        rw [b207_70 L (by omega) (by omega) (by omega), e]
      unfold rD
      by_cases hg : Gd I s o
      · rw [if_pos hg, b01_t hg, if_pos neg1_ne, fin (tH I 0) w5 (tH_n (by decide))]
      · rw [if_neg hg, b01_f hg, if_neg (fun q => q rfl), b207_27 L (by omega) (by omega) (by omega), tH_n (by decide)]
        have no : ¬ rL I s o → Go 207 53 [.inr (.inl (some 94)), .inl s, .inl x, .inl j, .inl o, w5] [] (mI h (tH I 0)) = aq h (rL I s o) (wW (tH I 0) s o) (I 97 (12 * o + j)) I 2 := by
          intro hn
          rw [aq_f hn, b207_53, b207_54, if_pos rfl, b207_60, b207_61 L, if_neg (fun q => q rfl), zu2_tH, b207_64]
        by_cases h7 : I 117 (120 * s + o) = 0
        · rw [if_pos h7, no (fun q => q.1 h7)]
        · rw [if_neg h7, b207_36 L, r179 L W2.2.2.2.1 hs (by omega), T2, caln_r, b207_40]
          by_cases hth : Th I s o
          · rw [b01_t hth, if_pos neg1_ne, no (fun q => q.2.1 hth)]
          · rw [b01_f hth, if_neg (fun q => q rfl), b207_41 L, e9]
            by_cases h9 : I 94 9 = 0
            · rw [if_neg (fun q => q h9), b207_44 (by omega) L, r181 L W2.2.2.2.1 W2.2.1 (by omega) (by omega), G2, caln_r, b207_50]
              by_cases hg2 : Gd I (1 - s) o
              · rw [aq_t (show rL I s o from ⟨h7, hth, h9, hg2⟩), b01_t hg2, if_neg neg1_ne, b207_51, b207_54, if_neg neg1_ne, b207_58, b207_61 L, if_pos neg1_ne, zu2_tH, b207_66 L,
                  r188 L ht2 W2.2.1 W2.2.2.1 W2.2.2.2.1 W2.2.2.2.2.1 hs (by omega) (W2.2.2.2.2.2.1 s hs), caln_v, fin _ _ (by rw [wW_f (by omega), tH_n (by decide)])]
              · rw [b01_f hg2, if_pos rfl, no (fun q => hg2 q.2.2.2)]
            · rw [if_pos h9, no (fun q => h9 q.2.2.1)]
    · rw [b01_f hp, if_pos rfl, bad, if_neg (fun q => hp q.2)]
  · rw [b01_f hs, if_pos rfl, bad, if_neg (fun q => hs q.1)]
