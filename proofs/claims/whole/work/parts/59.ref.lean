/-! ===== the reference's methods (10): crash, time ===== -/
theorem r162 {h : HP} {I : Nat → Int → Int} (L : LX 11 h 94) : Go 162 0 [.inr (.inl (some 94))] [] (mI h I) = some (mI h I, .inl (some (.inl (I 94 49)))) := by
  rw [b162_0 L]
/-- deeds that were not synced are of known kinds, of what there is -/
def WQ (I : Nat → Int → Int) : Prop := ∀ s k, s = 0 ∨ s = 1 → 0 ≤ k → k < I 104 s → (0 ≤ I 105 (30 * s + k) ∧ I 105 (30 * s + k) ≤ 4) ∧ (I 105 (30 * s + k) = 0 ∨ I 105 (30 * s + k) = 2 → 0 ≤ I 106 (30 * s + k) ∧ I 106 (30 * s + k) < 120) ∧ (I 105 (30 * s + k) = 1 ∨ I 105 (30 * s + k) = 3 → 0 ≤ I 106 (30 * s + k) ∧ I 106 (30 * s + k) < 40)
def kD (I : Nat → Int → Int) (s k : Int) : Nat → Int → Int :=
  if I 105 (30 * s + k) = 0 then rowU (rowU I 102 (up1 (I 102) (120 * s + I 106 (30 * s + k)) 1)) 103 (up1 (I 103) (120 * s + I 106 (30 * s + k)) (I 107 (30 * s + k)))
  else if I 105 (30 * s + k) = 1 then rowU I 110 (up1 (I 110) (I 106 (30 * s + k)) 1)
  else if I 105 (30 * s + k) = 2 then rowU I 102 (up1 (I 102) (120 * s + I 106 (30 * s + k)) 0)
  else if I 105 (30 * s + k) = 3 then rowU I 110 (up1 (I 110) (I 106 (30 * s + k)) 0)
  else I
theorem zsw0 : (zsw.getD 0 []) = [18, 44, 50, 60] := by decide +kernel
theorem r213 {h : HP} {I : Nat → Int → Int} {s k : Int} {v3 : MV} (L : LX 11 h 94) (hs : s = 0 ∨ s = 1) (hk : 0 ≤ k ∧ k < 30) (hb : ∀ j, I 107 j = 0 ∨ I 107 j = 1)
    (q : (0 ≤ I 105 (30 * s + k) ∧ I 105 (30 * s + k) ≤ 4) ∧ (I 105 (30 * s + k) = 0 ∨ I 105 (30 * s + k) = 2 → 0 ≤ I 106 (30 * s + k) ∧ I 106 (30 * s + k) < 120) ∧ (I 105 (30 * s + k) = 1 ∨ I 105 (30 * s + k) = 3 → 0 ≤ I 106 (30 * s + k) ∧ I 106 (30 * s + k) < 40)) :
    Go 213 0 [.inr (.inl (some 94)), .inl s, .inl k, v3] [] (mI h I) = some (mI h (kD I s k), .inl none) := by
  obtain ⟨q0, q1, q2⟩ := q
  rw [b213_0 L (by omega) (by omega) (by omega), zsw0]
  unfold kD
  by_cases h0 : I 105 (30 * s + k) = 0
  · have w := q1 (Or.inl h0)
    rw [if_pos h0, h0]
    show Go 213 18 _ _ _ = _
    rw [b213_18 L (by omega) (by omega) (by omega) (by omega) (by omega) (by omega) (by simp only [zu2_row, rowU, Nat.reduceEqDiff, ↓reduceIte]; exact hb _), b213_66]
    simp only [zu2_row, rowU, Nat.reduceEqDiff, ↓reduceIte]
  · rw [if_neg h0]
    by_cases h1 : I 105 (30 * s + k) = 1
    · have w := q2 (Or.inl h1)
      rw [if_pos h1, h1]
      show Go 213 44 _ _ _ = _
      rw [b213_44 L (by omega), b213_66, zu2_row]
    · rw [if_neg h1]
      by_cases h2 : I 105 (30 * s + k) = 2
      · have w := q1 (Or.inr h2)
        rw [if_pos h2, h2]
        show Go 213 50 _ _ _ = _
        rw [b213_50 L (by omega) (by omega) (by omega), b213_66, zu2_row]
      · rw [if_neg h2]
        by_cases h3 : I 105 (30 * s + k) = 3
        · have w := q2 (Or.inr h3)
          rw [if_pos h3, h3]
          show Go 213 60 _ _ _ = _
          rw [b213_60 L (by omega), b213_66, zu2_row]
        · have h4 : I 105 (30 * s + k) = 4 := by omega
          rw [if_neg h3, h4]
          show Go 213 66 _ _ _ = _
          rw [b213_66]
theorem up1_id {f : Int → Int} {k v : Int} (h : f k = v) : up1 f k v = f := by
  funext j
  unfold up1
  split
  · next hj => rw [hj, h]
  · rfl
theorem r215 {h : HP} {I : Nat → Int → Int} {x : Int} (L : LX 11 h 94) (ht : 0 ≤ I 94 8 ∧ I 94 8 ≤ 1000000) : Go 215 0 [.inr (.inl (some 94)), .inl x] [] (mI h I) = aq h (1 ≤ x ∧ x ≤ 100) (rowU (tH I 0) 94 (up1 (tH I 0 94) 8 (I 94 8 + x))) (I 94 8 + x) I 1 := by
  have e8 : ∀ t, tH I t 94 8 = I 94 8 := fun t => tH_94 (by decide)
  have e49 : ∀ t y, zu2 (tH I t) 94 8 y 94 49 = t := fun t y => by rw [zu2_row, rowU_eq, up1_ne (by decide), tH_49]
  rw [b215_0, r163, caln_r, b215_5]
  by_cases hx : 1 ≤ x ∧ x ≤ 100
  · rw [aq_t hx, b01_t hx, if_neg neg1_ne, b215_6, b215_9 L, zu2_tI, tH_49, if_pos (by decide), e8, b215_18, b215_19 (by omega) L, e49, if_pos (by decide), b215_26 L, b215_28, zu2_row, rowU_eq, up1_eq]
  · rw [aq_f hx, b01_f hx, if_pos rfl, b215_8, b215_9 L, zu2_tI, tH_49, if_neg (by decide), e8, b215_16, b215_19 (by omega) L, e49, if_neg (by decide), b215_24, b215_28, zu2_row, up1_id (by rw [e8, Int.add_zero]), rowU_id]
theorem r216 {h : HP} {I : Nat → Int → Int} {x : Int} : Go 216 0 [.inl x] [] (mI h I) = some (mI h I, .inl (some (.inl (b01 (0 ≤ x ∧ x ≤ 5))))) := by
  rw [b216_0, r163, caln_r, b216_4 (b01_or _)]
theorem kD_f {I : Nat → Int → Int} {s k : Int} {a : Nat} (h2 : a ≠ 102) (h3 : a ≠ 103) (h10 : a ≠ 110) : kD I s k a = I a := by
  unfold kD
  split
  · rw [rowU_ne h3, rowU_ne h2]
  · split
    · rw [rowU_ne h10]
    · split
      · rw [rowU_ne h2]
      · split
        · rw [rowU_ne h10]
        · rfl
/-- the disk's deeds in a crash: memory, note, how many were lost -/
def cB (I : Nat → Int → Int) (s x k lost : Int) : Prop := zand (x / 2 ^ k.toNat) 1 = 1 ∧ (I 105 (30 * s + k) < 2 ∨ lost = 0)
noncomputable def cS (I : Nat → Int → Int) (s x : Int) : Nat → (Nat → Int → Int) × Int × Int
  | 0 => (I, 0, 0)
  | n + 1 => @ite _ (cB I s x n (cS I s x n).2.2) (Classical.propDecidable _) (kD (cS I s x n).1 s n, if I 105 (30 * s + n) = 4 then 1 + (n : Int) else (cS I s x n).2.1, (cS I s x n).2.2) ((cS I s x n).1, (cS I s x n).2.1, (cS I s x n).2.2 + 1)
theorem cS_f {I : Nat → Int → Int} {s x : Int} {a : Nat} (h2 : a ≠ 102) (h3 : a ≠ 103) (h10 : a ≠ 110) : ∀ n : Nat, (cS I s x n).1 a = I a
  | 0 => rfl
  | n + 1 => by
    have ih := cS_f (I := I) (s := s) (x := x) h2 h3 h10 n
    unfold cS
    split
    · exact (kD_f h2 h3 h10).trans ih
    · exact ih
theorem cS_b {I : Nat → Int → Int} {s x : Int} : ∀ n : Nat, (0 ≤ (cS I s x n).2.1 ∧ (cS I s x n).2.1 ≤ n) ∧ 0 ≤ (cS I s x n).2.2 ∧ (cS I s x n).2.2 ≤ n
  | 0 => ⟨⟨Int.le_refl _, Int.le_refl _⟩, Int.le_refl _, Int.le_refl _⟩
  | n + 1 => by
    have ih := cS_b (I := I) (s := s) (x := x) n
    unfold cS
    split
    · dsimp only
      split <;> omega
    · dsimp only
      omega
theorem cS_s {I : Nat → Int → Int} {s x k : Int} (hk : 0 ≤ k) : cS I s x (k + 1).toNat = @ite _ (cB I s x k (cS I s x k.toNat).2.2) (Classical.propDecidable _) (kD (cS I s x k.toNat).1 s k, if I 105 (30 * s + k) = 4 then 1 + k else (cS I s x k.toNat).2.1, (cS I s x k.toNat).2.2) ((cS I s x k.toNat).1, (cS I s x k.toNat).2.1, (cS I s x k.toNat).2.2 + 1) := by
  have : (k + 1).toNat = k.toNat + 1 := by omega
  rw [this]
  have e : ((k.toNat : Nat) : Int) = k := Int.toNat_of_nonneg hk
  have hd : ∀ n : Nat, cS I s x (n + 1) = @ite _ (cB I s x n (cS I s x n).2.2) (Classical.propDecidable _) (kD (cS I s x n).1 s n, if I 105 (30 * s + n) = 4 then 1 + (n : Int) else (cS I s x n).2.1, (cS I s x n).2.2) ((cS I s x n).1, (cS I s x n).2.1, (cS I s x n).2.2 + 1) := fun _ => rfl
  rw [hd, e]
theorem r214a {h : HP} {I : Nat → Int → Int} {s x : Int} {v6 : MV} (L : LX 11 h 94) (Q : WQ I) (hb : ∀ j, I 107 j = 0 ∨ I 107 j = 1) (hs : s = 0 ∨ s = 1) (hd : 0 ≤ I 104 s ∧ I 104 s ≤ 30) (hx : 0 ≤ x ∧ x ≤ 1073741823) :
    ∃ w, Go 214 26 [.inr (.inl (some 94)), .inl s, .inl x, .inl 0, .inl 0, .inl 0, v6] [] (mI h I) = Go 214 70 [.inr (.inl (some 94)), .inl s, .inl x, .inl (cS I s x (I 104 s).toNat).2.1, .inl (cS I s x (I 104 s).toNat).2.2, .inl (I 104 s), w] [] (mI h (cS I s x (I 104 s).toNat).1) := by
  have key := lpE (fun k (v : MV) => Go 214 26 [.inr (.inl (some 94)), .inl s, .inl x, .inl (cS I s x k.toNat).2.1, .inl (cS I s x k.toNat).2.2, .inl k, v] [] (mI h (cS I s x k.toNat).1)) (fun _ _ => True) 0 (I 104 s) hd.1 ?_ v6 trivial
  · obtain ⟨w, e, -⟩ := key
    refine ⟨w, e.trans ?_⟩
    rw [b214_26 L (by omega), cS_f (by decide) (by decide) (by decide), if_pos (Int.le_refl _)]
  · intro k v h0 h1 _
    have f5 := cS_f (I := I) (s := s) (x := x) (a := 105) (by decide) (by decide) (by decide) k.toNat
    have f6 := cS_f (I := I) (s := s) (x := x) (a := 106) (by decide) (by decide) (by decide) k.toNat
    have f7 := cS_f (I := I) (s := s) (x := x) (a := 107) (by decide) (by decide) (by decide) k.toNat
    have f4 := cS_f (I := I) (s := s) (x := x) (a := 104) (by decide) (by decide) (by decide) k.toNat
    have cb := cS_b (I := I) (s := s) (x := x) k.toNat
    have q := Q s k hs h0 h1
    refine ⟨.inl (I 105 (30 * s + k)), ?_, trivial⟩
    rw [cS_s h0]
    generalize hM : (cS I s x k.toNat).1 = M at *
    generalize hsl : (cS I s x k.toNat).2.1 = sl at *
    generalize hlo : (cS I s x k.toNat).2.2 = lo at *
    have h32 : Go 214 26 [.inr (.inl (some 94)), .inl s, .inl x, .inl sl, .inl lo, .inl k, v] [] (mI h M) = if zand (x / 2 ^ k.toNat) 1 ≠ 1 then Go 214 67 [.inr (.inl (some 94)), .inl s, .inl x, .inl sl, .inl lo, .inl k, .inl (I 105 (30 * s + k))] [] (mI h M) else Go 214 48 [.inr (.inl (some 94)), .inl s, .inl x, .inl sl, .inl lo, .inl k, .inl (I 105 (30 * s + k))] [] (mI h M) := by
      rw [b214_26 L (by omega), f4, if_neg (by omega), b214_32 L (by omega) (by omega) (by omega) (by omega), f5]
    have lost : ¬ cB I s x k lo → Go 214 67 [.inr (.inl (some 94)), .inl s, .inl x, .inl sl, .inl lo, .inl k, .inl (I 105 (30 * s + k))] [] (mI h M) = Go 214 26 [.inr (.inl (some 94)), .inl s, .inl x, .inl sl, .inl (lo + 1), .inl (k + 1), .inl (I 105 (30 * s + k))] [] (mI h M) := by
      intro _
      rw [b214_67 (by omega), b214_68 (by omega)]
    have kept : Go 214 53 [.inr (.inl (some 94)), .inl s, .inl x, .inl sl, .inl lo, .inl k, .inl (I 105 (30 * s + k))] [] (mI h M) = Go 214 26 [.inr (.inl (some 94)), .inl s, .inl x, .inl (if I 105 (30 * s + k) = 4 then 1 + k else sl), .inl lo, .inl (k + 1), .inl (I 105 (30 * s + k))] [] (mI h (kD M s k)) := by
      rw [b214_53 L, r213 L hs (by omega) (by rw [f7]; exact hb) (by rw [f5, f6]; exact q), caln_v, b214_57]
      by_cases h4 : I 105 (30 * s + k) = 4
      · rw [if_neg (fun q => q h4), if_pos h4, b214_60 (by omega), b214_65, b214_68 (by omega)]
      · rw [if_pos h4, if_neg h4, b214_64, b214_65, b214_68 (by omega)]
    rw [h32]
    by_cases hbit : zand (x / 2 ^ k.toNat) 1 = 1
    · rw [if_neg (fun q => q hbit), b214_48]
      by_cases h2 : I 105 (30 * s + k) < 2
      · rw [if_pos h2, if_pos (show cB I s x k lo from ⟨hbit, Or.inl h2⟩), kept]
      · rw [if_neg h2, b214_51]
        by_cases hl : lo = 0
        · rw [if_neg (fun q => q hl), if_pos (show cB I s x k lo from ⟨hbit, Or.inr hl⟩), kept]
        · have hn : ¬ cB I s x k lo := fun q => q.2.elim h2 hl
          rw [if_pos hl, if_neg hn, lost hn]
    · have hn : ¬ cB I s x k lo := fun q => hbit q.1
      rw [if_pos hbit, if_neg hn, lost hn]
