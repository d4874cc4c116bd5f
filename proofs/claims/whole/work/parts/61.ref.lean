/-! ===== the reference's methods (12): crash ===== -/
theorem cS_110 {I : Nat → Int → Int} {s x : Int} (hb : ∀ j, I 110 j = 0 ∨ I 110 j = 1) : ∀ (n : Nat) (j : Int), (cS I s x n).1 110 j = 0 ∨ (cS I s x n).1 110 j = 1
  | 0, j => hb j
  | n + 1, j => by
    have ih := cS_110 (s := s) (x := x) hb n
    have hd : cS I s x (n + 1) = @ite _ (cB I s x n (cS I s x n).2.2) (Classical.propDecidable _) (kD (cS I s x n).1 s n, if I 105 (30 * s + n) = 4 then 1 + (n : Int) else (cS I s x n).2.1, (cS I s x n).2.2) ((cS I s x n).1, (cS I s x n).2.1, (cS I s x n).2.2 + 1) := rfl
    rw [hd]
    by_cases hc : cB I s x n (cS I s x n).2.2
    · rw [if_pos hc]
      dsimp only
      unfold kD
      split
      · simp only [rowU, Nat.reduceEqDiff, ↓reduceIte]; exact ih j
      · split
        · simp only [rowU, Nat.reduceEqDiff, ↓reduceIte]
          unfold up1
          split
          · exact Or.inr rfl
          · exact ih j
        · split
          · simp only [rowU, Nat.reduceEqDiff, ↓reduceIte]; exact ih j
          · split
            · simp only [rowU, Nat.reduceEqDiff, ↓reduceIte]
              unfold up1
              split
              · exact Or.inl rfl
              · exact ih j
            · exact ih j
    · rw [if_neg hc]
      exact ih j
/-- the store as its disk is -/
def cR (J : Nat → Int → Int) (s : Int) : Nat → Int → Int :=
  rowU (rowU (rowU J 101 (fillR (J 101) (120 * s) (120 * s + 120) (fun j => if J 102 j = 0 then 0 else 1))) 127 (fillR (J 127) (120 * s) (120 * s + 120) (fun _ => 0))) 128 (fillR (J 128) (120 * s) (120 * s + 120) (fun _ => 0))
def cE (J : Nat → Int → Int) (s : Int) : Nat → Int → Int :=
  rowU (rowU (rowU J 109 (fillR (J 109) (20 * s) (20 * s + 20) (J 110))) 129 (fillR (J 129) (6 * s) (6 * s + 6) (fun _ => 0))) 104 (up1 (J 104) s 0)
theorem r214b {h : HP} {J : Nat → Int → Int} {s x y z k : Int} {v6 : MV} (L : LX 11 h 94) (hs : s = 0 ∨ s = 1) (hb : ∀ j, J 110 j = 0 ∨ J 110 j = 1) :
    Go 214 78 [.inr (.inl (some 94)), .inl s, .inl x, .inl y, .inl z, .inl k, v6] [] (mI h J) = some (mI h (cE (cR J s) s), .inl (some (.inl z))) := by
  rw [b214_78 (by omega)]
  have key1 := lpU (fun k => Go 214 82 [.inr (.inl (some 94)), .inl s, .inl x, .inl y, .inl z, .inl k, v6] [] (mI h (rowU (rowU (rowU J 101 (fillR (J 101) (120 * s) k (fun j => if J 102 j = 0 then 0 else 1))) 127 (fillR (J 127) (120 * s) k (fun _ => 0))) 128 (fillR (J 128) (120 * s) k (fun _ => 0))))) (120 * s) (120 * s + 120) (by omega) ?_
  · rw [fillR_0 (by omega), fillR_0 (by omega), fillR_0 (by omega), show rowU (rowU (rowU J 101 (J 101)) 127 (J 127)) 128 (J 128) = J by rw [rowU_id, rowU_id, rowU_id]] at key1
    rw [key1, b214_82 (by omega) (by omega), if_pos (Int.le_refl _), b214_113 (by omega)]
    rw [show (rowU (rowU (rowU J 101 (fillR (J 101) (120 * s) (120 * s + 120) (fun j => if J 102 j = 0 then 0 else 1))) 127 (fillR (J 127) (120 * s) (120 * s + 120) (fun _ => 0))) 128 (fillR (J 128) (120 * s) (120 * s + 120) (fun _ => 0))) = cR J s from rfl]
    have hb2 : ∀ j, cR J s 110 j = 0 ∨ cR J s 110 j = 1 := hb
    generalize cR J s = R at hb2
    have key2 := lpU (fun k => Go 214 117 [.inr (.inl (some 94)), .inl s, .inl x, .inl y, .inl z, .inl k, v6] [] (mI h (rowU R 109 (fillR (R 109) (20 * s) k (R 110))))) (20 * s) (20 * s + 20) (by omega) ?_
    · rw [fillR_0 (by omega), rowU_id] at key2
      rw [key2, b214_117 (by omega) (by omega), if_pos (Int.le_refl _), b214_134 (by omega)]
      generalize hR2 : rowU R 109 (fillR (R 109) (20 * s) (20 * s + 20) (R 110)) = R2
      have key3 := lpU (fun k => Go 214 138 [.inr (.inl (some 94)), .inl s, .inl x, .inl y, .inl z, .inl k, v6] [] (mI h (rowU R2 129 (fillR (R2 129) (6 * s) k (fun _ => 0))))) (6 * s) (6 * s + 6) (by omega) ?_
      · rw [fillR_0 (by omega), rowU_id] at key3
        rw [key3, b214_138 (by omega) (by omega), if_pos (Int.le_refl _), b214_152 L (by omega), zu2_row]
        subst hR2
        rfl
      · intro k h0 h1
        rw [b214_138 (by omega) (by omega), if_neg (by omega), b214_145 L (by omega) (by omega), zu2_row, rowU_tw, rowU_eq, fillR_s h0 rfl]
    · intro k h0 h1
      rw [b214_117 (by omega) (by omega), if_neg (by omega), b214_124 L (by omega) (by simp only [rowU, Nat.reduceEqDiff, ↓reduceIte]; exact hb2 k) (by omega), zu2_row, rowU_tw, rowU_eq, fillR_s h0 (by simp only [rowU, Nat.reduceEqDiff, ↓reduceIte])]
  · intro k h0 h1
    have e1 : up1 (fillR (J 101) (120 * s) k (fun j => if J 102 j = 0 then 0 else 1)) k (if J 102 k = 0 then 0 else 1) = fillR (J 101) (120 * s) (k + 1) (fun j => if J 102 j = 0 then 0 else 1) := fillR_s h0 rfl
    have e2 : up1 (fillR (J 127) (120 * s) k (fun _ => 0)) k 0 = fillR (J 127) (120 * s) (k + 1) (fun _ => 0) := fillR_s h0 rfl
    have e3 : up1 (fillR (J 128) (120 * s) k (fun _ => 0)) k 0 = fillR (J 128) (120 * s) (k + 1) (fun _ => 0) := fillR_s h0 rfl
    rw [b214_82 (by omega) (by omega), if_neg (by omega), b214_89 L (by omega)]
    simp only [rowU, Nat.reduceEqDiff, ↓reduceIte]
    by_cases hc : J 102 k = 0
    · rw [if_pos hc] at e1
      rw [if_pos hc, b214_99, b214_100 L (by omega) (by omega) (by omega)]
      simp only [zu2_row, rowU, Nat.reduceEqDiff, ↓reduceIte, rowU_k3, e1, e2, e3]
    · rw [if_neg hc] at e1
      rw [if_neg hc, b214_97, b214_100 L (by omega) (by omega) (by omega)]
      simp only [zu2_row, rowU, Nat.reduceEqDiff, ↓reduceIte, rowU_k3, e1, e2, e3]
/-- notes are numbers of replaced, shallow and promised -/
def WO (I : Nat → Int → Int) : Prop := ∀ j, 0 ≤ I 121 j ∧ I 121 j ≤ 403
noncomputable def cF (I : Nat → Int → Int) (s x : Int) : Nat → Int → Int :=
  cE (cR (kN (tN (cS I s x (I 104 s).toNat).1 s (cS I s x (I 104 s).toNat).2.1) s 0) s) s
noncomputable def cL (I : Nat → Int → Int) (s x : Int) : Int := (cS I s x (I 104 s).toNat).2.2
theorem tN_WN {M : Nat → Int → Int} {s n : Int} (N : WN M) (O : WO M) : WN (tN M s n) := by
  intro j
  unfold tN
  simp only [rowU, Nat.reduceEqDiff, ↓reduceIte]
  unfold fillR
  split
  · have := O (120 * (31 * s + n) + (j - 120 * s))
    dsimp only
    omega
  · exact N j
theorem r214 {h : HP} {I : Nat → Int → Int} {s x : Int} {w3 w4 w5 w6 : MV} (L : LX 11 h 94) (Q : WQ I) (N : WN I) (O : WO I) (hb : ∀ j, I 107 j = 0 ∨ I 107 j = 1) (hb2 : ∀ j, I 110 j = 0 ∨ I 110 j = 1) (hd : ∀ s, s = 0 ∨ s = 1 → 0 ≤ I 104 s ∧ I 104 s ≤ 30) :
    Go 214 0 [.inr (.inl (some 94)), .inl s, .inl x, w3, w4, w5, w6] [] (mI h I) = @ite _ (s = 0 ∨ s = 1) (Classical.propDecidable _) (aq h (0 ≤ x ∧ x ≤ 1073741823) (cF (tH I 0) s x) (cL (tH I 0) s x) I 2) (some (mI h (tH I 1), .inl (some (.inl 0)))) := by
  rw [b214_0, r164, caln_r, b214_3]
  by_cases hs : s = 0 ∨ s = 1
  · rw [if_pos hs, b01_t hs, if_pos neg1_ne, b214_6, r163, caln_r, b214_10]
    by_cases hx : 0 ≤ x ∧ x ≤ 1073741823
    · rw [aq_t hx, b01_t hx, if_neg neg1_ne, b214_11, b214_14 L, zu2_tI, tH_49, if_pos (by decide), b214_20]
      obtain ⟨w, e⟩ := r214a (h := h) (I := tH I 0) (s := s) (x := x) (v6 := w6) L Q hb hs (hd s hs) hx
      rw [e, b214_70 L]
      unfold cF cL
      have e118 : ∀ n : Nat, (cS (tH I 0) s x n).1 118 = I 118 := fun n => cS_f (by decide) (by decide) (by decide) n
      have e121 : ∀ n : Nat, (cS (tH I 0) s x n).1 121 = I 121 := fun n => cS_f (by decide) (by decide) (by decide) n
      have b110 := cS_110 (s := s) (x := x) (I := tH I 0) hb2 (tH I 0 104 s).toNat
      have bsl := cS_b (I := tH I 0) (s := s) (x := x) (tH I 0 104 s).toNat
      have hd2 : 0 ≤ tH I 0 104 s ∧ tH I 0 104 s ≤ 30 := hd s hs
      specialize e118 (tH I 0 104 s).toNat
      specialize e121 (tH I 0 104 s).toNat
      generalize (cS (tH I 0) s x (tH I 0 104 s).toNat).1 = M at *
      generalize (cS (tH I 0) s x (tH I 0 104 s).toNat).2.1 = sl at *
      generalize (cS (tH I 0) s x (tH I 0 104 s).toNat).2.2 = lo at *
      have N2 : WN M := fun j => by rw [e118]; exact N j
      have O2 : WO M := fun j => by rw [e121]; exact O j
      rw [r184 L (fun j => (O2 j).1) hs (by omega), caln_v, b214_74 L, r183 L (tN_WN N2 O2) hs (by decide), caln_v, r214b (J := kN (tN M s sl) s 0) L hs b110]
    · rw [aq_f hx, b01_f hx, if_pos rfl, b214_13, b214_14 L, zu2_tI, tH_49, if_neg (by decide), b214_18]
  · rw [if_neg hs, b01_f hs, if_neg (fun q => q rfl), b214_4, b214_14 L, zu2_tI, tH_49, if_neg (by decide), b214_18]
