/-! ===== the reference's methods (12): crash ===== -/
theorem cS_110 {I : Nat → Int → Int} {s x : Int} (hb : ∀ j, I 110 j = 0 ∨ I 110 j = 1) : ∀ (n : Nat) (j : Int), (cS I s x n).1 110 j = 0 ∨ (cS I s x n).1 110 j = 1
  | 0, j => hb j
  | n + 1, j => by
    have ih := cS_110 (s := s) (x := x) hb n
    have hd : cS I s x (n + 1) = @ite _ (cB I s x n (cS I s x n).2.2) (Classical.propDecidable _) (kD (cS I s x n).1 s n, if I 105 (30 * s + n) = 4 then 1 + (n : Int) else (cS I s x n).2.1, (cS I s x n).2.2) ((cS I s x n).1, (cS I s x n).2.1, (cS I s x n).2.2 + 1) := rfl
    rw [hd]
    by_cases hc : cB I s x n (cS I s x n).2.2
    · rw [if_pos hc]
      dsimp only
      unfold kD
      split
      · simp only [rowU, Nat.reduceEqDiff, ↓reduceIte]; exact ih j
      · split
        · simp only [rowU, Nat.reduceEqDiff, ↓reduceIte]
          unfold up1
          split
          · exact Or.inr rfl
          · exact ih j
        · split
          · simp only [rowU, Nat.reduceEqDiff, ↓reduceIte]; exact ih j
          · split
            · simp only [rowU, Nat.reduceEqDiff, ↓reduceIte]
              unfold up1
              split
              · exact Or.inl rfl
              · exact ih j
            · exact ih j
    · rw [if_neg hc]
      exact ih j
/-- the store as its disk is -/
def cR (J : Nat → Int → Int) (s : Int) : Nat → Int → Int :=
  rowU (rowU (rowU J 101 (fillR (J 101) (120 * s) (120 * s + 120) (fun j => if J 102 j = 0 then 0 else 1))) 127 (fillR (J 127) (120 * s) (120 * s + 120) (fun _ => 0))) 128 (fillR (J 128) (120 * s) (120 * s + 120) (fun _ => 0))
def cE (J : Nat → Int → Int) (s : Int) : Nat → Int → Int :=
  rowU (rowU (rowU J 109 (fillR (J 109) (20 * s) (20 * s + 20) (J 110))) 129 (fillR (J 129) (6 * s) (6 * s + 6) (fun _ => 0))) 104 (up1 (J 104) s 0)
theorem r214b {h : HP} {J : Nat → Int → Int} {s x y z k : Int} {v6 : MV} (L : LX 11 h 94) (hs : s = 0 ∨ s = 1) (hb : ∀ j, J 110 j = 0 ∨ J 110 j = 1) :
    Go 214 78 [.inr (.inl (some 94)), .inl s, .inl x, .inl y, .inl z, .inl k, v6] [] (mI h J) = some (mI h (cE (cR J s) s), .inl (some (.inl z))) := by
  rw [b214_78 (by omega)]
  have key1 := lpU (fun k => Go 214 82 [.inr (.inl (some 94)), .inl s, .inl x, .inl y, .inl z, .inl k, v6] [] (mI h (rowU (rowU (rowU J 101 (fillR (J 101) (120 * s) k (fun j => if J 102 j = 0 then 0 else 1))) 127 (fillR (J 127) (120 * s) k (fun _ => 0))) 128 (fillR (J 128) (120 * s) k (fun _ => 0))))) (120 * s) (120 * s + 120) (by omega) ?_
  · rw [fillR_0 (by omega), fillR_0 (by omega), fillR_0 (by omega), show rowU (rowU (rowU J 101 (J 101)) 127 (J 127)) 128 (J 128) = J by rw [rowU_id, rowU_id, rowU_id]] at key1
    rw [key1, b214_82 (by omega) (by omega), if_pos (Int.le_refl _), b214_113 (by omega)]
    rw [show (rowU (rowU (rowU J 101 (fillR (J 101) (120 * s) (120 * s + 120) (fun j => if J 102 j = 0 then 0 else 1))) 127 (fillR (J 127) (120 * s) (120 * s + 120) (fun _ => 0))) 128 (fillR (J 128) (120 * s) (120 * s + 120) (fun _ => 0))) = cR J s from rfl]
    have hb2 : ∀ j, cR J s 110 j = 0 ∨ cR J s 110 j = 1 := hb
    generalize cR J s = R at hb2
    have key2 := lpU (fun k => Go 214 117 [.inr (.inl (some 94)), .inl s, .inl x, .inl y, .inl z, .inl k, v6] [] (mI h (rowU R 109 (fillR (R 109) (20 * s) k (R 110))))) (20 * s) (20 * s + 20) (by omega) ?_
    · rw [fillR_0 (by omega), rowU_id] at key2
      rw [key2, b214_117 (by omega) (by omega), if_pos (Int.le_refl _), b214_134 (by omega)]
      generalize hR2 : rowU R 109 (fillR (R 109) (20 * s) (20 * s + 20) (R 110)) = R2
      have key3 := lpU (fun k => Go 214 138 [.inr (.inl (some 94)), .inl s, .inl x, .inl y, .inl z, .inl k, v6] [] (mI h (rowU R2 129 (fillR (R2 129) (6 * s) k (fun _ => 0))))) (6 * s) (6 * s + 6) (by omega) ?_
      · rw [fillR_0 (by omega), rowU_id] at key3
        rw [key3, b214_138 (by omega) (by omega), if_pos (Int.le_refl _), b214_152 L (by omega), zu2_row]
        subst hR2
        rfl
      · intro k h0 h1
        rw [b214_138 (by omega) (by omega), if_neg (by omega), b214_145 L (by omega) (by omega), zu2_row, rowU_tw, rowU_eq, fillR_s h0 rfl]
    · intro k h0 h1
      rw [b214_117 (by omega) (by omega), if_neg (by omega), b214_124 L (by omega) (by simp only [rowU, Nat.reduceEqDiff, ↓reduceIte]; exact hb2 k) (by omega), zu2_row, rowU_tw, rowU_eq, fillR_s h0 (by simp only [rowU, Nat.reduceEqDiff, ↓reduceIte])]
  · intro k h0 h1
    have e1 : up1 (fillR (J 101) (120 * s) k (fun j => if J 102 j = 0 then 0 else 1)) k (if J 102 k = 0 then 0 else 1) = fillR (J 101) (120 * s) (k + 1) (fun j => if J 102 j = 0 then 0 else 1) := fillR_s h0 rfl
    have e2 : up1 (fillR (J 127) (120 * s) k (fun _ => 0)) k 0 = fillR (J 127) (120 * s) (k + 1) (fun _ => 0) := fillR_s h0 rfl
    have e3 : up1 (fillR (J 128) (120 * s) k (fun _ => 0)) k 0 = fillR (J 128) (120 * s) (k + 1) (fun _ => 0) := fillR_s h0 rfl
    rw [b214_82 (by omega) (by omega), if_neg (by omega), b214_89 L (by omega)]
    simp only [rowU, Nat.reduceEqDiff, ↓reduceIte]
    by_cases hc : J 102 k = 0
    · rw [if_pos hc] at e1
      rw [if_pos hc, b214_99, b214_100 L (by omega) (by omega) (by omega)]
      simp only [zu2_row, rowU, Nat.reduceEqDiff, ↓reduceIte, rowU_k3, e1, e2, e3]
    · rw [if_neg hc] at e1
      rw [if_neg hc, b214_97, b214_100 L (by omega) (by omega) (by omega)]
      simp only [zu2_row, rowU, Nat.reduceEqDiff, ↓reduceIte, rowU_k3, e1, e2, e3]
