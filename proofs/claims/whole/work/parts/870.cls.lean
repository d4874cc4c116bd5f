/-! ===== the class (1): the book ===== -/
/-- how many links an object has; the place of the k-th in its body; the object there -/
def nL (J : Nat → Int → Int) (o : Int) : Int := if J 95 o = 1 then J 96 o / 2 else if J 95 o = 2 then J 96 o - 1 else if J 95 o = 3 then 1 else 0
def lkP (J : Nat → Int → Int) (o k : Int) : Int := if J 95 o = 1 then 2 * k + 1 else if J 95 o = 2 then (if k = 0 then 0 else k + 1) else 0
def lkR (J : Nat → Int → Int) (o k : Int) : Int := atR J o (lkP J o k)
/-- the book of the class is that of the reference -/
def BC (I J : Nat → Int → Int) : Prop := I 2 7 = J 94 0 ∧ (∀ o, 0 ≤ o → o < J 94 0 → (I 3 o = J 95 o ∧ I 4 o = J 98 o ∧ I 5 o = J 96 o ∧ I 8 o = nL J o) ∧ (∀ j, 0 ≤ j → j < J 96 o → I 6 (o * 12 + j) = J 97 (12 * o + j)) ∧ ∀ k, 0 ≤ k → k < nL J o → I 7 (o * 6 + k) = lkR J o k) ∧ EnN J (I 9)
def WNm (J : Nat → Int → Int) : Prop := ∀ o, 0 ≤ o → o < J 94 0 → J 98 o = 100 * (so J o % 89) + cN (fun k => so J k % 89 = so J o % 89) o.toNat
def RB (J : Nat → Int → Int) : Prop := WB J ∧ WNm J ∧ ∀ j, 0 ≤ J 97 j ∧ J 97 j ≤ 9999
theorem cN_split {P : Int → Prop} : ∀ (m n : Nat), n ≤ m → cN P n ≤ cN P m
  | 0, n, h => by have : n = 0 := by omega
                  subst this; exact Int.le_refl _
  | m + 1, n, h => by
    by_cases e : n = m + 1
    · subst e; exact Int.le_refl _
    · have := cN_split (P := P) m n (by omega)
      have := b01_or (P m)
      show cN P n ≤ cN P m + b01 (P m)
      omega
theorem RB_nm {J : Nat → Int → Int} (R : RB J) : NmD J := by
  have key : ∀ a b, 0 ≤ a → a < b → b < J 94 0 → J 98 a ≠ J 98 b := by
    intro a b h0 h1 h2 e
    have ea := R.2.1 a h0 (by omega)
    have eb := R.2.1 b (by omega) h2
    have ca := cN_b (P := fun k => so J k % 89 = so J a % 89) a.toNat
    have cb := cN_b (P := fun k => so J k % 89 = so J b % 89) b.toNat
    have hT := R.1.1
    have hs : so J a % 89 = so J b % 89 := by omega
    have e1 : cN (fun k => so J k % 89 = so J b % 89) (a + 1).toNat = cN (fun k => so J k % 89 = so J b % 89) a.toNat + 1 := by
      rw [cN_s h0, b01_t hs]
    have e2 := cN_split (P := fun k => so J k % 89 = so J b % 89) b.toNat (a + 1).toNat (by omega)
    rw [hs] at ea
    omega
  intro a b h0 h1 h2 h3 e
  apply Classical.byContradiction
  intro q
  by_cases h : a < b
  · exact key a b h0 h h3 e
  · exact key b a h2 (by omega) h1 e.symm
theorem RB_x {J : Nat → Int → Int} (R : RB J) : WX J := by
  intro k h0 h1
  have e := R.2.1 k h0 h1
  have c := cN_b (P := fun j => so J j % 89 = so J k % 89) k.toNat
  have hT := R.1.1
  omega
theorem fnd_f {J : Nat → Int → Int} (D : NmD J) {k : Int} (h0 : 0 ≤ k) (h1 : k < J 94 0) : fnd J (J 98 k) = k := by
  have hT : 0 ≤ J 94 0 := by omega
  have hf := fnd_lt (I := J) (x := J 98 k) hT
  by_cases h : 0 ≤ fnd J (J 98 k)
  · exact D _ _ h hf.2.1 h0 h1 (hf.2.2 h)
  · exact absurd rfl (fndN_no (nm := J 98) (x := J 98 k) (J 94 0).toNat (by unfold fnd at h hf; omega) k h0 (by omega))
theorem k1 {h : HP} {I J : Nat → Int → Int} {x : Int} (L : LX 0 h 2) (B : BC I J) (R : RB J) : Go 1 0 [.inr (.inl (some 2)), .inl x] [] (mI h I) = some (mI h I, .inl (some (.inl (b01 (0 ≤ x ∧ x < J 94 0))))) := by
  have hT := R.1.1
  rw [b1_0]
  by_cases h0 : x < 0
  · rw [if_pos h0, b1_11, b1_12 (Or.inl rfl), b01_f (by omega)]
  · rw [if_neg h0, b1_2 L, B.1]
    by_cases h1 : J 94 0 ≤ x
    · rw [if_pos h1, b1_11, b1_12 (Or.inl rfl), b01_f (by omega)]
    · rw [if_neg h1, b1_6, if_neg (by omega), b1_9, b1_12 (Or.inr rfl), b01_t (by omega)]
theorem k2 {h : HP} {I J : Nat → Int → Int} {x : Int} {v2 : MV} (L : LX 0 h 2) (B : BC I J) (R : RB J) : Go 2 0 [.inr (.inl (some 2)), .inl x, v2] [] (mI h I) = some (mI h I, .inl (some (.inl (fnd J x)))) := by
  have hT := R.1.1
  have D := RB_nm R
  rw [b2_0]
  refine lpQ (fun k (_ : Unit) => Go 2 2 [.inr (.inl (some 2)), .inl x, .inl k] [] (mI h I)) (fun k _ => ∀ i, 0 ≤ i → i < k → J 98 i ≠ x) (fun r => r = some (mI h I, .inl (some (.inl (fnd J x))))) 0 (J 94 0) hT.1 ?_ ?_ () (fun i a b => by omega)
  · intro k _ k0 k1 hk
    have e := (B.2.1 k k0 k1).1.2.1
    by_cases hc : J 98 k = x
    · left
      rw [b2_2 L, B.1, if_neg (by omega), b2_6 L (by omega), e, if_neg (fun q => q hc), b2_12, ← hc, fnd_f D k0 k1]
    · right
      refine ⟨(), ?_, fun i a b => ?_⟩
      · rw [b2_2 L, B.1, if_neg (by omega), b2_6 L (by omega), e, if_pos hc, b2_14 (by omega)]
      · by_cases hi : i = k
        · subst hi; exact hc
        · exact hk i a (by omega)
  · intro _ hk
    have hf := fnd_lt (I := J) (x := x) hT.1
    have : fnd J x = -1 := by
      apply Classical.byContradiction
      intro q
      exact hk _ (by omega) hf.2.1 (hf.2.2 (by omega))
    rw [b2_2 L, B.1, if_pos (Int.le_refl _), b2_16, this]
def kdO (J : Nat → Int → Int) (x : Int) : Int := if 0 ≤ x ∧ x < J 94 0 then J 95 x else -1
def nmO (J : Nat → Int → Int) (x : Int) : Int := if 0 ≤ x ∧ x < J 94 0 then J 98 x else -1
def lnO (J : Nat → Int → Int) (x : Int) : Int := if 0 ≤ x ∧ x < J 94 0 then J 96 x else 0
def nuO (J : Nat → Int → Int) (x j : Int) : Int := if (0 ≤ x ∧ x < J 94 0) ∧ 0 ≤ j ∧ j < J 96 x then J 97 (12 * x + j) else -1
def nlO (J : Nat → Int → Int) (x : Int) : Int := if 0 ≤ x ∧ x < J 94 0 then nL J x else 0
def lkO (J : Nat → Int → Int) (x k : Int) : Int := if (0 ≤ x ∧ x < J 94 0) ∧ 0 ≤ k ∧ k < nL J x then lkR J x k else -1
theorem k3 {h : HP} {I J : Nat → Int → Int} {x : Int} (L : LX 0 h 2) (B : BC I J) (R : RB J) : Go 3 0 [.inr (.inl (some 2)), .inl x] [] (mI h I) = some (mI h I, .inl (some (.inl (kdO J x)))) := by
  have hT := R.1.1
  rw [b3_0 L, k1 L B R, caln_r, b3_3]
  unfold kdO
  by_cases hx : 0 ≤ x ∧ x < J 94 0
  · rw [b01_t hx, if_neg neg1_ne, b3_4 L (by omega), b3_10, if_pos hx, (B.2.1 x hx.1 hx.2).1.1]
  · rw [b01_f hx, if_pos rfl, b3_9, b3_10, if_neg hx]
theorem k4 {h : HP} {I J : Nat → Int → Int} {x : Int} (L : LX 0 h 2) (B : BC I J) (R : RB J) : Go 4 0 [.inr (.inl (some 2)), .inl x] [] (mI h I) = some (mI h I, .inl (some (.inl (nmO J x)))) := by
  have hT := R.1.1
  rw [b4_0 L, k1 L B R, caln_r, b4_3]
  unfold nmO
  by_cases hx : 0 ≤ x ∧ x < J 94 0
  · rw [b01_t hx, if_neg neg1_ne, b4_4 L (by omega), b4_10, if_pos hx, (B.2.1 x hx.1 hx.2).1.2.1]
  · rw [b01_f hx, if_pos rfl, b4_9, b4_10, if_neg hx]
theorem k5 {h : HP} {I J : Nat → Int → Int} {x : Int} (L : LX 0 h 2) (B : BC I J) (R : RB J) : Go 5 0 [.inr (.inl (some 2)), .inl x] [] (mI h I) = some (mI h I, .inl (some (.inl (lnO J x)))) := by
  have hT := R.1.1
  rw [b5_0 L, k1 L B R, caln_r, b5_3]
  unfold lnO
  by_cases hx : 0 ≤ x ∧ x < J 94 0
  · rw [b01_t hx, if_neg neg1_ne, b5_4 L (by omega), b5_10, if_pos hx, (B.2.1 x hx.1 hx.2).1.2.2.1]
  · rw [b01_f hx, if_pos rfl, b5_9, b5_10, if_neg hx]
theorem k6 {h : HP} {I J : Nat → Int → Int} {x j : Int} (L : LX 0 h 2) (B : BC I J) (R : RB J) : Go 6 0 [.inr (.inl (some 2)), .inl x, .inl j] [] (mI h I) = some (mI h I, .inl (some (.inl (nuO J x j)))) := by
  have hT := R.1.1
  rw [b6_0 L, k1 L B R, caln_r, b6_3]
  unfold nuO
  by_cases hx : 0 ≤ x ∧ x < J 94 0
  · have w := (R.1.2 x hx.1 hx.2).1
    have b := B.2.1 x hx.1 hx.2
    rw [b01_t hx, if_neg neg1_ne, b6_4]
    by_cases h0 : j < 0
    · rw [if_pos h0, b6_21, b6_22, if_neg (fun q => by have := q.2.1; omega)]
    · rw [if_neg h0, b6_6 L (by omega), b.1.2.2.1]
      by_cases h1 : J 96 x ≤ j
      · rw [if_pos h1, b6_21, b6_22, if_neg (fun q => by have := q.2.2; omega)]
      · rw [if_neg h1, b6_12 L (by omega) (by omega) (by omega), b6_22, if_pos ⟨hx, by omega, by omega⟩, b.2.1 j (by omega) (by omega)]
  · rw [b01_f hx, if_pos rfl, b6_21, b6_22, if_neg (fun q => hx q.1)]
theorem nL_b {J : Nat → Int → Int} (W : WB J) {x : Int} (h0 : 0 ≤ x) (h1 : x < J 94 0) : 0 ≤ nL J x ∧ nL J x ≤ 6 := by
  have w := (W.2 x h0 h1).1
  unfold nL
  split
  · omega
  · split
    · have := w.2.2.2.2.2.1 (by assumption); omega
    · split <;> omega
theorem k7 {h : HP} {I J : Nat → Int → Int} {x j : Int} (L : LX 0 h 2) (B : BC I J) (R : RB J) : Go 7 0 [.inr (.inl (some 2)), .inl x, .inl j] [] (mI h I) = some (mI h I, .inl (some (.inl (lkO J x j)))) := by
  have hT := R.1.1
  rw [b7_0 L, k1 L B R, caln_r, b7_3]
  unfold lkO
  by_cases hx : 0 ≤ x ∧ x < J 94 0
  · have w := nL_b R.1 hx.1 hx.2
    have b := B.2.1 x hx.1 hx.2
    rw [b01_t hx, if_neg neg1_ne, b7_4]
    by_cases h0 : j < 0
    · rw [if_pos h0, b7_21, b7_22, if_neg (fun q => by have := q.2.1; omega)]
    · rw [if_neg h0, b7_6 L (by omega), b.1.2.2.2]
      by_cases h1 : nL J x ≤ j
      · rw [if_pos h1, b7_21, b7_22, if_neg (fun q => by have := q.2.2; omega)]
      · rw [if_neg h1, b7_12 L (by omega) (by omega) (by omega), b7_22, if_pos ⟨hx, by omega, by omega⟩, b.2.2 j (by omega) (by omega)]
  · rw [b01_f hx, if_pos rfl, b7_21, b7_22, if_neg (fun q => hx q.1)]
theorem k8 {h : HP} {I J : Nat → Int → Int} {x : Int} (L : LX 0 h 2) (B : BC I J) (R : RB J) : Go 8 0 [.inr (.inl (some 2)), .inl x] [] (mI h I) = some (mI h I, .inl (some (.inl (nlO J x)))) := by
  have hT := R.1.1
  rw [b8_0 L, k1 L B R, caln_r, b8_3]
  unfold nlO
  by_cases hx : 0 ≤ x ∧ x < J 94 0
  · rw [b01_t hx, if_neg neg1_ne, b8_4 L (by omega), b8_10, if_pos hx, (B.2.1 x hx.1 hx.2).1.2.2.2]
  · rw [b01_f hx, if_pos rfl, b8_9, b8_10, if_neg hx]
def paO (J : Nat → Int → Int) (x : Int) : Int := if kdO J x = 2 then nlO J x - 1 else 0
theorem nlO_b {J : Nat → Int → Int} (W : WB J) {x : Int} : 0 ≤ nlO J x ∧ nlO J x ≤ 6 := by
  unfold nlO
  split
  · next hx => exact nL_b W hx.1 hx.2
  · omega
theorem k9 {h : HP} {I J : Nat → Int → Int} {x : Int} (L : LX 0 h 2) (B : BC I J) (R : RB J) : Go 9 0 [.inr (.inl (some 2)), .inl x] [] (mI h I) = some (mI h I, .inl (some (.inl (paO J x)))) := by
  have hn := nlO_b (x := x) R.1
  rw [b9_0 L, k3 L B R, caln_r, b9_3]
  unfold paO
  by_cases hx : kdO J x = 2
  · rw [if_neg (fun q => q hx), if_pos hx, b9_5 L, k8 L B R, caln_r, b9_8 (by omega), b9_12]
  · rw [if_pos hx, if_neg hx, b9_11, b9_12]
def vrO (J : Nat → Int → Int) (x : Int) : Int := if kdO J x = 3 then lkO J x 0 else x
theorem k10 {h : HP} {I J : Nat → Int → Int} {x : Int} (L : LX 0 h 2) (B : BC I J) (R : RB J) : Go 10 0 [.inr (.inl (some 2)), .inl x] [] (mI h I) = some (mI h I, .inl (some (.inl (vrO J x)))) := by
  rw [b10_0 L, k3 L B R, caln_r, b10_3]
  unfold vrO
  by_cases hx : kdO J x = 3
  · rw [if_neg (fun q => q hx), if_pos hx, b10_5 L, k7 L B R, caln_r, b10_9, b10_11]
  · rw [if_pos hx, if_neg hx, b10_10, b10_11]
