/-! ===== the reference's methods (8): version, tag ===== -/
def sw (I : Nat → Int → Int) : Nat → Int → Int := rowU (rowU I 99 (fillR (I 99) 0 12 (I 100))) 100 (fillR (I 100) 0 12 (I 99))
def bJ (I : Nat → Int → Int) (n : Int) : Nat → Int → Int := rowU (sw I) 94 (up1 (I 94) 5 n)
def rs (M : Nat → Int → Int) (d : Int) : Nat → Int → Int := rowU (rowU M 99 (fillR (M 99) 0 12 (M 100))) 94 (up1 (M 94) 5 d)
noncomputable def tB (h : HP) (I : Nat → Int → Int) (s c n : Int) : Option (HP × OUT) :=
  if sm (bJ I n) c < 0 ∧ bJ I n 94 0 = 100 then some (mI h (rs (tH (bJ I n) 3) (I 94 5)), .inl (some (.inl 0))) else some (mI h (rs (tW (bJ I n) s c) (I 94 5)), .inl (some (.inl (tJ (bJ I n) c 98 (tO (bJ I n) c)))))
theorem WT_b {I : Nat → Int → Int} {n : Int} (W : WT I) : WT (bJ I n) := by
  have e0 : bJ I n 94 0 = I 94 0 := by
    unfold bJ
    rw [rowU_eq, up1_ne (by decide)]
  have e : ∀ a, a ≠ 94 → a ≠ 99 → a ≠ 100 → bJ I n a = I a := fun a h1 h2 h3 => by
    unfold bJ sw
    rw [rowU_ne h1, rowU_ne h3, rowU_ne h2]
  unfold WT
  rw [WB_e e0 (e 95 (by decide) (by decide) (by decide)) (e 96 (by decide) (by decide) (by decide)) (e 97 (by decide) (by decide) (by decide)) (e 98 (by decide) (by decide) (by decide)), WK_e e0 (e 108 (by decide) (by decide) (by decide)) (e 111 (by decide) (by decide) (by decide)) (e 112 (by decide) (by decide) (by decide)) (e 113 (by decide) (by decide) (by decide))]
  exact W
theorem r197 {h : HP} {I : Nat → Int → Int} {s c n : Int} {v4 v5 v6 : MV} (L : LX 11 h 94) (W : WT I) (hs : s = 0 ∨ s = 1) (hc : 0 ≤ c ∧ c ≤ 3) (hn : 0 ≤ n ∧ n ≤ 12) (hb : ∀ j, 0 ≤ j → j < n → 0 ≤ I 100 j ∧ I 100 j ≤ 9999) :
    Go 197 0 [.inr (.inl (some 94)), .inl s, .inl c, .inl n, v4, v5, v6] [] (mI h I) = tB h I s c n := by
  rw [b197_0 L]
  have key1 := lpE (fun k (v : MV) => Go 197 5 [.inr (.inl (some 94)), .inl s, .inl c, .inl n, .inl (I 94 5), .inl k, v] [] (mI h (rowU (rowU I 99 (fillR (I 99) 0 k (I 100))) 100 (fillR (I 100) 0 k (I 99))))) (fun _ _ => True) 0 12 (by omega) ?_ v6 trivial
  · obtain ⟨v, e, -⟩ := key1
    rw [fillR_0 (by omega), fillR_0 (by omega), show rowU (rowU I 99 (I 99)) 100 (I 100) = I by rw [rowU_id, rowU_id]] at e
    rw [e, b197_5, if_pos (by decide), b197_28 L, zu2_row]
    rw [show rowU (rowU (rowU I 99 (fillR (I 99) 0 12 (I 100))) 100 (fillR (I 100) 0 12 (I 99))) 94 (up1 (rowU (rowU I 99 (fillR (I 99) 0 12 (I 100))) 100 (fillR (I 100) 0 12 (I 99)) 94) 5 n) = bJ I n from rfl]
    have D : WD (bJ I n) := by
      have e5 : bJ I n 94 5 = n := by unfold bJ; rw [rowU_eq, up1_eq]
      refine ⟨by rw [e5]; exact hn, fun j a b => ?_⟩
      rw [e5] at b
      have : bJ I n 99 j = I 100 j := by
        show fillR (I 99) 0 12 (I 100) j = _
        rw [fillR_in (by omega)]
      rw [this]
      exact hb j a b
    rw [r192' L (WT_b W) D hs hc]
    have fin : ∀ (M : Nat → Int → Int) (x : Int), caln 197 [.inr (.inl (some 94)), .inl s, .inl c, .inl n, .inl (I 94 5), .inl 12, v] [] 35 (some (mI h M, .inl (some (.inl x)))) = some (mI h (rs M (I 94 5)), .inl (some (.inl x))) := by
      intro M x
      rw [caln_r, b197_35]
      have key2 := lpU (fun k => Go 197 38 [.inr (.inl (some 94)), .inl s, .inl c, .inl n, .inl (I 94 5), .inl x, .inl k] [] (mI h (rowU M 99 (fillR (M 99) 0 k (M 100))))) 0 12 (by omega) ?_
      · rw [fillR_0 (by omega), rowU_id] at key2
        rw [key2, b197_38, if_pos (by decide), b197_51 L, zu2_row]
        rfl
      · intro k h0 h1
        rw [b197_38, if_neg (by omega), b197_41 L (by omega) (by omega), zu2_row, rowU_tw]
        simp only [rowU, Nat.reduceEqDiff, ↓reduceIte]
        rw [fillR_s h0 rfl]
    unfold tR tB
    split
    · exact fin _ _
    · exact fin _ _
  · intro k v h0 h1 _
    refine ⟨.inl (fillR (I 99) 0 k (I 100) k), ?_, trivial⟩
    rw [b197_5, if_neg (by omega), b197_8 L (by omega) (by omega)]
    simp only [zu2_row, rowU, Nat.reduceEqDiff, ↓reduceIte]
    have o1 : fillR (I 99) 0 k (I 100) k = I 99 k := fillR_out (by omega)
    have o2 : fillR (I 100) 0 k (I 99) k = I 100 k := fillR_out (by omega)
    rw [o1, o2, rowU_k2, fillR_s h0 rfl, fillR_s h0 rfl]
theorem r198 {h : HP} {I : Nat → Int → Int} {s x : Int} (L : LX 11 h 94) (W : WB I) (K : WK I) (hs : s = 0 ∨ s = 1) (hx : 0 ≤ fnd I x) : Go 198 0 [.inr (.inl (some 94)), .inl s, .inl x] [] (mI h I) = some (mI h I, .inl (some (.inl (b01 (Th I s (fnd I x)))))) := by
  have ht := WB_t W
  have hf := fnd_lt (I := I) (x := x) ht.1
  rw [b198_0 L, r165 L ht, caln_r, b198_5 L, r179 L K hs (by omega), caln_r, b198_6 (b01_or _)]
