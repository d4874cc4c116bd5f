/-! ===== the class (3): a new object in the book ===== -/
/-- a row of the class holds the draft of the reference -/
def BE (I J : Nat → Int → Int) (b : Nat) : Prop := ∀ j, 0 ≤ j → j < J 94 5 → I b j = J 99 j
theorem k12 {h : HP} {I J : Nat → Int → Int} {b : Nat} {x n : Int} {v4 : MV} (L : LX 0 h 2) (B : BC I J) (R : RB J) (hb : hK h b = (0, 12)) (hx : 0 ≤ x ∧ x < J 94 0) (hn : n = J 96 x) :
    Go 12 0 [.inr (.inl (some 2)), .inl x, .inr (.inl (some b)), .inl n, v4] [] (mI h I) = some (mI h I, .inl (some (.inl (b01 (∀ j, 0 ≤ j → j < n → J 97 (12 * x + j) = I b j))))) := by
  have w := (R.1.2 x hx.1 hx.2).1
  rw [b12_0]
  refine lpQ (fun k (_ : Unit) => Go 12 2 [.inr (.inl (some 2)), .inl x, .inr (.inl (some b)), .inl n, .inl k] [] (mI h I)) (fun k _ => ∀ j, 0 ≤ j → j < k → J 97 (12 * x + j) = I b j) (fun r => r = some (mI h I, .inl (some (.inl (b01 (∀ j, 0 ≤ j → j < n → J 97 (12 * x + j) = I b j)))))) 0 n (by omega) ?_ ?_ () (fun j a b => by omega)
  · intro k _ k0 k1 hk
    have e : nuO J x k = J 97 (12 * x + k) := if_pos ⟨hx, k0, by omega⟩
    by_cases hc : J 97 (12 * x + k) = I b k
    · right
      refine ⟨(), ?_, fun j a c => ?_⟩
      · rw [b12_2, if_neg (by omega), b12_5 hb, if_neg (by omega), b12_9 L, k6 L B R, caln_r, b12_13 hb (by omega), e, if_pos hc, b12_19 (by omega)]
      · by_cases hj : j = k
        · subst hj; exact hc
        · exact hk j a (by omega)
    · left
      rw [b12_2, if_neg (by omega), b12_5 hb, if_neg (by omega), b12_9 L, k6 L B R, caln_r, b12_13 hb (by omega), e, if_neg hc, b12_17, b01_f (fun q => hc (q k k0 k1))]
  · intro _ hk
    rw [b12_2, if_pos (Int.le_refl _), b12_21, b01_t hk]
theorem k11 {h : HP} {I J : Nat → Int → Int} {b : Nat} {c n : Int} {v4 : MV} (L : LX 0 h 2) (B : BC I J) (R : RB J) (U : WU J) (hb : hK h b = (0, 12)) (hn : n = J 94 5) (hE : BE I J b) :
    Go 11 0 [.inr (.inl (some 2)), .inl c, .inr (.inl (some b)), .inl n, v4] [] (mI h I) = some (mI h I, .inl (some (.inl (sm J c)))) := by
  have hT := R.1.1
  rw [b11_0]
  have hsB : ∀ k, 0 ≤ k → k < J 94 0 → (sB J c k ↔ (J 95 k = c ∧ J 96 k = n) ∧ ∀ j, 0 ≤ j → j < n → J 97 (12 * k + j) = I b j) := by
    intro k _ _
    unfold sB
    rw [hn]
    refine and_congr_right (fun _ => ⟨fun q j a d => (q j a d).trans (hE j a d).symm, fun q j a d => (q j a d).trans (hE j a d)⟩)
  refine lpQ (fun k (_ : Unit) => Go 11 2 [.inr (.inl (some 2)), .inl c, .inr (.inl (some b)), .inl n, .inl k] [] (mI h I)) (fun k _ => ∀ i, 0 ≤ i → i < k → ¬sB J c i) (fun r => r = some (mI h I, .inl (some (.inl (sm J c))))) 0 (J 94 0) hT.1 ?_ ?_ () (fun i a b => by omega)
  · intro k _ k0 k1 hk
    have e := (B.2.1 k k0 k1).1
    have nx : ¬sB J c k → ∀ i, 0 ≤ i → i < k + 1 → ¬sB J c i := fun q i a d => by
      by_cases hi : i = k
      · subst hi; exact q
      · exact hk i a (by omega)
    by_cases q1 : J 95 k = c
    · by_cases q2 : J 96 k = n
      · have hgo : Go 11 2 [.inr (.inl (some 2)), .inl c, .inr (.inl (some b)), .inl n, .inl k] [] (mI h I) = Go 11 23 [.inr (.inl (some 2)), .inl c, .inr (.inl (some b)), .inl n, .inl k] [.inl (b01 (∀ j, 0 ≤ j → j < n → J 97 (12 * k + j) = I b j))] (mI h I) := by
          rw [b11_2 L, B.1, if_neg (by omega), b11_6 L (by omega), e.1, if_neg (fun q => q q1), b11_12 L (by omega), e.2.2.1, if_neg (fun q => q q2), b11_18 L, k12 L B R hb ⟨k0, k1⟩ q2.symm, caln_r]
        by_cases q3 : ∀ j, 0 ≤ j → j < n → J 97 (12 * k + j) = I b j
        · left
          rw [hgo, b01_t q3, b11_23, if_neg neg1_ne, b11_24, sB_u U k0 k1 ((hsB k k0 k1).mpr ⟨⟨q1, q2⟩, q3⟩)]
        · right
          refine ⟨(), ?_, nx (fun q => q3 ((hsB k k0 k1).mp q).2)⟩
          rw [hgo, b01_f q3, b11_23, if_pos rfl, b11_26 (by omega)]
      · right
        refine ⟨(), ?_, nx (fun q => q2 ((hsB k k0 k1).mp q).1.2)⟩
        rw [b11_2 L, B.1, if_neg (by omega), b11_6 L (by omega), e.1, if_neg (fun q => q q1), b11_12 L (by omega), e.2.2.1, if_pos q2, b11_26 (by omega)]
    · right
      refine ⟨(), ?_, nx (fun q => q1 ((hsB k k0 k1).mp q).1.1)⟩
      rw [b11_2 L, B.1, if_neg (by omega), b11_6 L (by omega), e.1, if_pos q1, b11_26 (by omega)]
  · intro _ hk
    have hl := lastP_lt (P := sB J c) (J 94 0).toNat
    have : sm J c = -1 := by
      apply Classical.byContradiction
      intro q
      unfold sm at q
      exact hk _ (by omega) (by have := hl.2.1; omega) (hl.2.2 (by omega))
    rw [b11_2 L, B.1, if_pos (Int.le_refl _), b11_28, this]
theorem k16 {h : HP} {I : Nat → Int → Int} {c j : Int} (hj : 0 ≤ j) : Go 16 0 [.inl c, .inl j] [] (mI h I) = some (mI h I, .inl (some (.inl (b01 ((c = 1 ∧ j % 2 = 1) ∨ (c = 2 ∧ j ≠ 1) ∨ c = 3))))) := by
  rw [b16_0]
  have last : ¬(c = 1 ∧ j % 2 = 1) → ¬(c = 2 ∧ j ≠ 1) → Go 16 14 [.inl c, .inl j] [] (mI h I) = some (mI h I, .inl (some (.inl (b01 ((c = 1 ∧ j % 2 = 1) ∨ (c = 2 ∧ j ≠ 1) ∨ c = 3))))) := by
    intro n1 n2
    rw [b16_14]
    by_cases h3 : c = 3
    · rw [if_neg (fun q => q h3), b16_17, b16_20 (Or.inr rfl), b01_t (Or.inr (Or.inr h3))]
    · rw [if_pos h3, b16_19, b16_20 (Or.inl rfl), b01_f (fun q => q.elim n1 (fun q => q.elim n2 h3))]
  have mid : ¬(c = 1 ∧ j % 2 = 1) → Go 16 8 [.inl c, .inl j] [] (mI h I) = some (mI h I, .inl (some (.inl (b01 ((c = 1 ∧ j % 2 = 1) ∨ (c = 2 ∧ j ≠ 1) ∨ c = 3))))) := by
    intro n1
    rw [b16_8]
    by_cases h2 : c = 2
    · rw [if_neg (fun q => q h2), b16_11]
      by_cases h4 : j = 1
      · rw [if_neg (fun q => q h4), last n1 (fun q => q.2 h4)]
      · rw [if_pos h4, b16_17, b16_20 (Or.inr rfl), b01_t (Or.inr (Or.inl ⟨h2, h4⟩))]
    · rw [if_pos h2, last n1 (fun q => h2 q.1)]
  by_cases h1 : c = 1
  · rw [if_neg (fun q => q h1), b16_3 hj]
    by_cases h2 : j % 2 = 1
    · rw [if_pos h2, b16_17, b16_20 (Or.inr rfl), b01_t (Or.inl ⟨h1, h2⟩)]
    · rw [if_neg h2, mid (fun q => h2 q.2)]
  · rw [if_pos h1, mid (fun q => h1 q.1)]
/-- the name of a new object -/
theorem k14 {h : HP} {I J : Nat → Int → Int} {b : Nat} {c n : Int} {v4 v5 v6 : MV} (L : LX 0 h 2) (B : BC I J) (R : RB J) (hb : hK h b = (0, 12)) (hn : n = J 94 5) (hE : BE I J b) (N : NB J c) :
    Go 14 0 [.inr (.inl (some 2)), .inl c, .inr (.inl (some b)), .inl n, v4, v5, v6] [] (mI h I) = some (mI h I, .inl (some (.inl (nN J c)))) := by
  have hT := R.1.1
  have hd := N.2.1
  have hs := fun (k : Int) (h0 : 0 ≤ k) (h1 : k ≤ n) => smN_b (g := J 99) k.toNat (by omega) (fun j a d => N.2.2.2.1 j a (by omega))
  have hc := N.1
  rw [b14_0 (by omega)]
  have key := lpU (fun k => Go 14 6 [.inr (.inl (some 2)), .inl c, .inr (.inl (some b)), .inl n, .inl (31 * c + smN (J 99) k.toNat), .inl k, v6] [] (mI h I)) 0 n (by omega) ?_
  · have e0 : 31 * c + smN (J 99) (0 : Int).toNat = 31 * c := Int.add_zero _
    rw [e0] at key
    have hsn := hs n (by omega) (Int.le_refl _)
    have eS : 31 * c + smN (J 99) n.toNat = nS J c := by unfold nS; rw [hn]
    rw [eS] at key
    have hS0 : 0 ≤ nS J c := by rw [← eS]; omega
    rw [key, b14_6, if_pos (Int.le_refl _), b14_25 hS0]
    have key2 := lpU (fun k => Go 14 33 [.inr (.inl (some 2)), .inl c, .inr (.inl (some b)), .inl n, .inl (nS J c % 89), .inl (cN (fun k => so J k % 89 = nS J c % 89) k.toNat), .inl k] [] (mI h I)) 0 (J 94 0) hT.1 ?_
    · have hcb := cN_b (P := fun k => so J k % 89 = nS J c % 89) (J 94 0).toNat
      refine Eq.trans key2 ?_
      rw [b14_33 L, B.1, if_pos (Int.le_refl _), b14_48 (by omega) (by omega)]
      rfl
    · intro k k0 k1
      have e := (B.2.1 k k0 k1).1.2.1
      have nm := R.2.1 k k0 k1
      have cb := cN_b (P := fun j => so J j % 89 = so J k % 89) k.toNat
      have cb2 := cN_b (P := fun k => so J k % 89 = nS J c % 89) k.toNat
      have hq : J 98 k / 100 = so J k % 89 := by omega
      have hx := (RB_x R) k k0 k1
      rw [b14_33 L, B.1, if_neg (by omega), b14_37 L (by omega) (by rw [e]; omega), e, hq, cN_s k0]
      by_cases q : so J k % 89 = nS J c % 89
      · rw [if_neg (fun r => r q), b14_45 (by omega), b14_46 (by omega), b01_t q]
      · rw [if_pos q, b14_46 (by omega), b01_f q, Int.add_zero]
  · intro k k0 k1
    have hsk := hs k k0 (by omega)
    have e := hE k k0 (by omega)
    have m := mulb (k := k) ⟨k0, by omega⟩ (N.2.2.2.1 k k0 (by omega))
    rw [b14_6, if_neg (by omega), b14_9 hb, if_neg (by omega), b14_13 (by omega) hb (by omega) (by rw [e]; omega) (by rw [e]; omega), e, smN_s k0, Int.add_assoc]
/-- how many links lie ahead of a place -/
def lc (c k : Int) : Int := if c = 1 then k / 2 else if c = 2 then (if k ≤ 1 then k else k - 1) else if c = 3 then k else 0
theorem k17 {h : HP} {I : Nat → Int → Int} {x z : Int} (L : LX 0 h 2) (hx : 0 ≤ x ∧ x < 100) (hz : z ≠ -1) (h8 : 0 ≤ I 8 x ∧ I 8 x < 6) :
    Go 17 0 [.inr (.inl (some 2)), .inl x, .inl z] [] (mI h I) = some (mI h (rowU (rowU I 7 (up1 (I 7) (x * 6 + I 8 x) z)) 8 (up1 (I 8) x (I 8 x + 1))), .inl none) := by
  have e1 : zu2 I 7 (x * 6 + I 8 x) z 8 x = I 8 x := by rw [zu2_row, rowU_ne (by decide)]
  rw [b17_0, if_neg hz, b17_3 L hx, if_neg (by omega), b17_9 L (by omega) hx (by omega) (by omega) (by rw [e1]; omega), b17_29, e1]
  simp only [zu2_row, rowU, Nat.reduceEqDiff, ↓reduceIte]
theorem k15 {h : HP} {I J : Nat → Int → Int} {c : Int} {v2 : MV} (L : LX 0 h 2) (B : BC I J) (R : RB J) (N : NB J c) (ht : J 94 0 < 100) (h3 : I 3 (J 94 0) = c) (h5 : I 5 (J 94 0) = J 94 5) (h6 : ∀ j, 0 ≤ j → j < J 94 5 → I 6 (J 94 0 * 12 + j) = J 99 j) :
    ∃ f7 f8, Go 15 0 [.inr (.inl (some 2)), .inl (J 94 0), v2] [] (mI h I) = some (mI h (rowU (rowU I 7 f7) 8 f8), .inl none) ∧ (∀ j, j ≠ J 94 0 → f8 j = I 8 j) ∧ (∀ j, j < J 94 0 * 6 → f7 j = I 7 j) ∧ f8 (J 94 0) = nL (nB J c) (J 94 0) ∧ ∀ k, 0 ≤ k → k < nL (nB J c) (J 94 0) → f7 (J 94 0 * 6 + k) = fnd J (J 99 (lkP (nB J c) (J 94 0) k)) := by
  have hT := R.1.1
  have hd := N.2.1
  have hc := N.1
  obtain ⟨T, hTT⟩ : ∃ T, T = J 94 0 := ⟨_, rfl⟩
  have e95 : nB J c 95 T = c := by rw [nB_95, hTT, up1_eq]
  have e96 : nB J c 96 T = J 94 5 := by rw [nB_96, hTT, up1_eq]
  have hnL : nL (nB J c) T = lc c (J 94 5) := by
    unfold nL lc
    rw [e95, e96]
    have q2 := N.2.2.1.2.1
    have q3 := N.2.2.1.2.2
    split
    · rfl
    · split
      · next h2 => have := q2 h2; split <;> omega
      · split
        · next h3 => have := q3 h3; omega
        · rfl
  have hlP : ∀ k, lkP (nB J c) T k = if c = 1 then 2 * k + 1 else if c = 2 then (if k = 0 then 0 else k + 1) else 0 := fun k => by
    unfold lkP
    rw [e95]
  rw [← hTT] at ht h3 h5 h6 ⊢
  rw [b15_0 L (by omega)]
  have BC2 : ∀ f7 f8 : Int → Int, (∀ j, j ≠ T → f8 j = I 8 j) → (∀ j, j < T * 6 → f7 j = I 7 j) → BC (rowU (rowU I 7 f7) 8 f8) J := by
    intro f7 f8 q8 q7
    refine ⟨B.1, fun o o0 o1 => ?_, B.2.2⟩
    have b := B.2.1 o o0 o1
    have hl := nL_b R.1 o0 o1
    refine ⟨⟨b.1.1, b.1.2.1, b.1.2.2.1, ?_⟩, b.2.1, fun k k0 k1 => ?_⟩
    · rw [rowU_eq, q8 o (by omega)]; exact b.1.2.2.2
    · rw [rowU_ne (by decide), rowU_eq, q7 _ (by omega)]; exact b.2.2 k k0 k1
  have key := lpE (fun k (x : (Int → Int) × (Int → Int)) => Go 15 7 [.inr (.inl (some 2)), .inl T, .inl k] [] (mI h (rowU (rowU I 7 x.1) 8 x.2)))
    (fun k x => ((∀ j, j ≠ T → x.2 j = I 8 j) ∧ (∀ j, j < T * 6 → x.1 j = I 7 j)) ∧ x.2 T = lc c k ∧ ∀ i, 0 ≤ i → i < lc c k → x.1 (T * 6 + i) = fnd J (J 99 (lkP (nB J c) T i))) 0 (J 94 5) hd.1 ?_ (I 7, up1 (I 8) T 0) ⟨⟨fun j q => up1_ne q, fun j _ => rfl⟩, ?_, fun i a b => ?_⟩
  · obtain ⟨⟨f7, f8⟩, e, ⟨q8, q7⟩, qT, qi⟩ := key
    dsimp only at e q8 q7 qT qi
    refine ⟨f7, f8, ?_, q8, q7, by rw [qT, hnL], fun k a b => qi k a (by rw [← hnL]; exact b)⟩
    have e0 : zu2 I 8 T 0 = rowU (rowU I 7 (I 7)) 8 (up1 (I 8) T 0) := by rw [zu2_row, rowU_id]
    rw [e0, e, b15_7 L (by omega)]
    simp only [rowU, Nat.reduceEqDiff, ↓reduceIte]
    rw [h5, if_pos (Int.le_refl _), b15_35]
  · rintro k ⟨f7, f8⟩ k0 k1 ⟨⟨q8, q7⟩, qT, qi⟩
    dsimp only at q8 q7 qT qi ⊢
    have hB2 := BC2 f7 f8 q8 q7
    have e3 : rowU (rowU I 7 f7) 8 f8 3 T = c := h3
    have e6 : rowU (rowU I 7 f7) 8 f8 6 (T * 12 + k) = J 99 k := h6 k k0 k1
    have hgo : Go 15 7 [.inr (.inl (some 2)), .inl T, .inl k] [] (mI h (rowU (rowU I 7 f7) 8 f8)) = Go 15 19 [.inr (.inl (some 2)), .inl T, .inl k] [.inl (b01 ((c = 1 ∧ k % 2 = 1) ∨ (c = 2 ∧ k ≠ 1) ∨ c = 3))] (mI h (rowU (rowU I 7 f7) 8 f8)) := by
      rw [b15_7 L (by omega)]
      simp only [rowU, Nat.reduceEqDiff, ↓reduceIte]
      rw [h5, if_neg (by omega), b15_13 L (by omega), e3, k16 k0, caln_r]
    by_cases hl : (c = 1 ∧ k % 2 = 1) ∨ (c = 2 ∧ k ≠ 1) ∨ c = 3
    · have hl2 : (c = 1 ∧ k % 2 = 1) ∨ (c = 2 ∧ k ≠ 1) ∨ (c = 3 ∧ k = 0) := by
        have := N.2.2.1.2.2
        omega
      have hf := N.2.2.2.2 k k0 k1 hl2
      have hlc : lc c (k + 1) = lc c k + 1 ∧ 0 ≤ lc c k ∧ lc c k < 6 ∧ lkP (nB J c) T (lc c k) = k := by
        rw [hlP]
        have q2 := N.2.2.1.2.1
        have q3 := N.2.2.1.2.2
        unfold lc
        by_cases c1 : c = 1
        · simp only [if_pos c1]; omega
        · simp only [if_neg c1]
          by_cases c2 : c = 2
          · have := q2 c2
            simp only [if_pos c2]
            by_cases ck : k ≤ 1
            · rw [if_pos ck, if_pos (by omega), if_pos (by omega)]; omega
            · rw [if_neg ck, if_neg (by omega), if_neg (by omega)]; omega
          · simp only [if_neg c2]
            have c3 : c = 3 := by omega
            have := q3 c3
            have hk0 : k = 0 := by omega
            simp only [if_pos c3]
            rw [hk0]
            simp
      have e8 : rowU (rowU I 7 f7) 8 f8 8 T = lc c k := by rw [rowU_eq, qT]
      refine ⟨(up1 f7 (T * 6 + lc c k) (fnd J (J 99 k)), up1 f8 T (lc c k + 1)), ?_, ⟨fun j q => ?_, fun j q => ?_⟩, ?_, fun i a b => ?_⟩
      · rw [hgo, b01_t hl, b15_19, if_neg neg1_ne, b15_20 L (by omega) (by omega) (by omega), e6, k2 L hB2 R, caln_r, b15_32 L, k17 L (by omega) (by omega) (by rw [e8]; omega), caln_v, b15_33 (by omega), e8]
        have e7 : rowU (rowU I 7 f7) 8 f8 7 = f7 := rfl
        have e88 : rowU (rowU I 7 f7) 8 f8 8 = f8 := rfl
        rw [e7, e88, rowU_k2]
      · dsimp only; rw [up1_ne q]; exact q8 j q
      · dsimp only; rw [up1_ne (by omega)]; exact q7 j q
      · dsimp only; rw [up1_eq, hlc.1]
      · dsimp only
        by_cases hi : i = lc c k
        · rw [hi, up1_eq, hlc.2.2.2]
        · rw [up1_ne (by omega)]; exact qi i a (by omega)
    · have hlc : lc c (k + 1) = lc c k := by
        unfold lc
        by_cases c1 : c = 1
        · simp only [if_pos c1]; omega
        · simp only [if_neg c1]
          by_cases c2 : c = 2
          · simp only [if_pos c2]
            have : k = 1 := by omega
            rw [this]
            decide
          · simp only [if_neg c2]
            rw [if_neg (by omega), if_neg (by omega)]
      refine ⟨(f7, f8), ?_, ⟨q8, q7⟩, ?_, fun i a b => ?_⟩
      · rw [hgo, b01_f hl, b15_19, if_pos rfl, b15_33 (by omega)]
      · dsimp only; rw [qT, hlc]
      · rw [hlc] at b; exact qi i a b
  · dsimp only
    rw [up1_eq]
    unfold lc
    split
    · decide
    · split
      · decide
      · split <;> rfl
  · exfalso
    have : lc c 0 = 0 := by
      unfold lc
      split
      · decide
      · split
        · decide
        · split <;> rfl
    omega
