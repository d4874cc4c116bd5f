/-! ===== the reference's methods (6): telling an object ===== -/
def smN (g : Int → Int) : Nat → Int
  | 0 => 0
  | n + 1 => smN g n + ((n : Int) + 1) * g n
theorem smN_s {g : Int → Int} {k : Int} (hk : 0 ≤ k) : smN g (k + 1).toNat = smN g k.toNat + (k + 1) * g k := by
  have : (k + 1).toNat = k.toNat + 1 := by omega
  rw [this]
  show smN g k.toNat + ((k.toNat : Int) + 1) * g (k.toNat : Int) = _
  rw [Int.toNat_of_nonneg hk]
theorem mulb {k b : Int} (hk : 0 ≤ k ∧ k < 12) (hb : 0 ≤ b ∧ b ≤ 9999) : 0 ≤ (k + 1) * b ∧ (k + 1) * b ≤ 119988 := by
  refine ⟨Int.mul_nonneg (by omega) hb.1, ?_⟩
  have h1 : (k + 1) * b ≤ 12 * b := Int.mul_le_mul_of_nonneg_right (by omega) hb.1
  omega
theorem smN_b {g : Int → Int} : ∀ n : Nat, n ≤ 12 → (∀ k : Int, 0 ≤ k → k < n → 0 ≤ g k ∧ g k ≤ 9999) → 0 ≤ smN g n ∧ smN g n ≤ n * 119988
  | 0, _, _ => by unfold smN; omega
  | n + 1, h, hg => by
    have ih := smN_b n (by omega) (fun k a b => hg k a (by omega))
    have m := mulb (k := n) (by omega) (hg n (by omega) (by omega))
    unfold smN
    omega
theorem smN_c {f g : Int → Int} : ∀ n : Nat, (∀ k : Int, 0 ≤ k → k < n → f k = g k) → smN f n = smN g n
  | 0, _ => rfl
  | n + 1, h => by
    unfold smN
    rw [smN_c n (fun k a b => h k a (by omega)), h n (by omega) (by omega)]
def so (I : Nat → Int → Int) (o : Int) : Int := 31 * I 95 o + smN (fun k => I 97 (12 * o + k)) (I 96 o).toNat
theorem r193 {h : HP} {I : Nat → Int → Int} {o : Int} {v2 v3 : MV} (L : LX 11 h 94) (ho : 0 ≤ o ∧ o < 120) (hk : 0 ≤ I 95 o ∧ I 95 o ≤ 3) (hz : 0 ≤ I 96 o ∧ I 96 o ≤ 12) (hb : ∀ j, 0 ≤ I 97 j ∧ I 97 j ≤ 9999) :
    Go 193 0 [.inr (.inl (some 94)), .inl o, v2, v3] [] (mI h I) = some (mI h I, .inl (some (.inl (so I o % 89)))) := by
  rw [b193_0 L ho (by omega)]
  have hs := fun (k : Int) (h0 : 0 ≤ k) (h1 : k ≤ 12) => smN_b (g := fun k => I 97 (12 * o + k)) k.toNat (by omega) (fun j _ _ => hb _)
  have key := lpU (fun k => Go 193 9 [.inr (.inl (some 94)), .inl o, .inl (31 * I 95 o + smN (fun k => I 97 (12 * o + k)) k.toNat), .inl k] [] (mI h I)) 0 (I 96 o) hz.1 ?_
  · have e0 : 31 * I 95 o + smN (fun k => I 97 (12 * o + k)) (0 : Int).toNat = 31 * I 95 o := Int.add_zero _
    rw [e0] at key
    have hs1 := hs _ hz.1 hz.2
    rw [key, b193_9 L ho]
    simp only [ne_eq, not_true_eq_false, not_false_eq_true, if_true, if_false, ite_true, ite_false, caln_v, caln_r, caln_x, Int.reduceEq, Int.reduceNe, Int.reduceLT, Int.reduceLE, Int.reduceAdd, Int.reduceMul, Int.reduceSub, Int.le_refl]
    rw [b193_32 (by omega)]
    rfl
  · intro k h0 h1
    have hk1 : ¬ I 96 o ≤ k := by omega
    have hs1 := hs k h0 (by omega)
    have m := mulb (k := k) ⟨h0, by omega⟩ (hb (12 * o + k))
    rw [b193_9 L ho, smN_s h0]
    simp only [hk1, if_false]
    rw [b193_15 (by omega) L (by omega) (by omega) (by omega) (by omega) (by omega), Int.add_assoc]
noncomputable def cN (P : Int → Prop) : Nat → Int
  | 0 => 0
  | n + 1 => cN P n + b01 (P n)
theorem cN_s {P : Int → Prop} {k : Int} (hk : 0 ≤ k) : cN P (k + 1).toNat = cN P k.toNat + b01 (P k) := by
  have : (k + 1).toNat = k.toNat + 1 := by omega
  rw [this]
  show cN P k.toNat + b01 (P (k.toNat : Int)) = _
  rw [Int.toNat_of_nonneg hk]
theorem cN_b {P : Int → Prop} : ∀ n : Nat, 0 ≤ cN P n ∧ cN P n ≤ n
  | 0 => ⟨Int.le_refl _, Int.le_refl _⟩
  | n + 1 => by
    have ih := cN_b (P := P) n
    have := b01_or (P n)
    unfold cN
    omega
theorem cN_c {P Q : Int → Prop} : ∀ n : Nat, (∀ k : Int, 0 ≤ k → k < n → (P k ↔ Q k)) → cN P n = cN Q n
  | 0, _ => rfl
  | n + 1, h => by
    unfold cN
    rw [cN_c n (fun k a b => h k a (by omega)), b01_c (h n (by omega) (by omega))]
/-- the rows with the draft as a new object -/
def nJ (I : Nat → Int → Int) (c : Int) : Nat → Int → Int :=
  rowU (rowU (rowU I 95 (up1 (I 95) (I 94 0) c)) 96 (up1 (I 96) (I 94 0) (I 94 5))) 97 (fillR (I 97) (12 * I 94 0) (12 * I 94 0 + I 94 5) (fun j => I 99 (j - 12 * I 94 0)))
def nS (I : Nat → Int → Int) (c : Int) : Int := 31 * c + smN (I 99) (I 94 5).toNat
noncomputable def nN (I : Nat → Int → Int) (c : Int) : Int := 100 * (nS I c % 89) + cN (fun k => so I k % 89 = nS I c % 89) (I 94 0).toNat
noncomputable def nB (I : Nat → Int → Int) (c : Int) : Nat → Int → Int :=
  rowU (rowU (nJ I c) 98 (up1 (I 98) (I 94 0) (nN I c))) 94 (up1 (I 94) 0 (I 94 0 + 1))
theorem so_nJ {I : Nat → Int → Int} {c k : Int} (hk : 0 ≤ k ∧ k < I 94 0) (hz : I 96 k ≤ 12) : so (nJ I c) k = so I k := by
  unfold so nJ
  simp only [rowU, Nat.reduceEqDiff, ↓reduceIte]
  rw [up1_ne (by omega), up1_ne (by omega)]
  congr 1
  refine smN_c _ (fun j a b => ?_)
  exact fillR_out (by omega)
theorem r192a {h : HP} {I : Nat → Int → Int} {s c x3 : Int} {v4 v5 v6 : MV} (L : LX 11 h 94) (ht : 0 ≤ I 94 0 ∧ I 94 0 < 100) (hd : 0 ≤ I 94 5 ∧ I 94 5 ≤ 12) (hc : 0 ≤ c ∧ c ≤ 3)
    (hk : ∀ o, 0 ≤ o → o < I 94 0 → (0 ≤ I 95 o ∧ I 95 o ≤ 3) ∧ 0 ≤ I 96 o ∧ I 96 o ≤ 12) (hb : ∀ j, 0 ≤ I 97 j ∧ I 97 j ≤ 9999) (hdr : ∀ j, 0 ≤ j → j < I 94 5 → 0 ≤ I 99 j ∧ I 99 j ≤ 9999) :
    ∃ w4 w5 w6, Go 192 22 [.inr (.inl (some 94)), .inl s, .inl c, .inl x3, v4, v5, v6] [] (mI h I) = Go 192 111 [.inr (.inl (some 94)), .inl s, .inl c, .inl (I 94 0), w4, w5, w6] [] (mI h (nB I c)) := by
  have hsm := fun (k : Int) (h0 : 0 ≤ k) (h1 : k ≤ I 94 5) => smN_b (g := I 99) k.toNat (by omega) (fun j a b => hdr j a (by omega))
  obtain ⟨T, hT⟩ : ∃ T, T = I 94 0 := ⟨_, rfl⟩
  obtain ⟨d, hdd⟩ : ∃ d, d = I 94 5 := ⟨_, rfl⟩
  rw [b192_22 L (by omega) (by omega)]
  simp only [zu2_row, rowU, Nat.reduceEqDiff, ↓reduceIte]
  have key1 := lpU (fun k => Go 192 42 [.inr (.inl (some 94)), .inl s, .inl c, .inl T, .inl (31 * c + smN (I 99) k.toNat), .inl k, v6] [] (mI h (rowU (rowU (rowU I 95 (up1 (I 95) T c)) 96 (up1 (I 96) T d)) 97 (fillR (I 97) (12 * T) (12 * T + k) (fun j => I 99 (j - 12 * T)))))) 0 d (by omega) ?_
  · rw [fillR_0 (by omega)] at key1
    have e1 : rowU (rowU (rowU I 95 (up1 (I 95) T c)) 96 (up1 (I 96) T d)) 97 (I 97) = rowU (rowU I 95 (up1 (I 95) T c)) 96 (up1 (I 96) T d) := by
      have := rowU_id (rowU (rowU I 95 (up1 (I 95) T c)) 96 (up1 (I 96) T d)) 97
      rwa [rowU_ne (by decide), rowU_ne (by decide)] at this
    have e0 : 31 * c + smN (I 99) (0 : Int).toNat = 31 * c := Int.add_zero _
    rw [e1, e0] at key1
    have e2 : (rowU (rowU (rowU I 95 (up1 (I 95) T c)) 96 (up1 (I 96) T d)) 97 (fillR (I 97) (12 * T) (12 * T + d) (fun j => I 99 (j - 12 * T)))) = nJ I c := by
      unfold nJ; rw [← hT, ← hdd]
    have hS : 31 * c + smN (I 99) d.toNat = nS I c := by unfold nS; rw [hdd]
    have hS0 := hsm d (by omega) (by omega)
    rw [e2, hS] at key1
    have key2 := lpU (fun k => Go 192 75 [.inr (.inl (some 94)), .inl s, .inl c, .inl T, .inl (nS I c), .inl (cN (fun k => so I k % 89 = nS I c % 89) k.toNat), .inl k] [] (mI h (nJ I c))) 0 T (by omega) ?_
    · refine ⟨.inl (nS I c), .inl (cN (fun k => so I k % 89 = nS I c % 89) T.toNat), .inl T, ?_⟩
      rw [← hT, ← hdd, key1, b192_42 L]
      have hd2 : nJ I c 94 5 ≤ d := by show I 94 5 ≤ d; omega
      simp only [hd2, if_true]
      rw [b192_71]
      refine key2.trans ?_
      have ht2 : nJ I c 94 0 ≤ T := by show I 94 0 ≤ T; omega
      have hcn := cN_b (P := fun k => so I k % 89 = nS I c % 89) T.toNat
      rw [b192_75 L]
      simp only [ht2, if_true]
      rw [b192_94 L (by omega) (by omega) (by omega) (by omega) (by simp only [zu2_row, rowU, Nat.reduceEqDiff, ↓reduceIte]; show -2147483648 ≤ I 94 0 + 1 ∧ I 94 0 + 1 < 2147483648; omega)]
      simp only [zu2_row, rowU, Nat.reduceEqDiff, ↓reduceIte]
      unfold nB nN
      rw [show nJ I c 98 = I 98 from rfl, show nJ I c 94 = I 94 from rfl, ← hT]
    · intro k h0 h1
      have hkk := hk k h0 (by omega)
      have hk0 : ¬ nJ I c 94 0 ≤ k := by show ¬ I 94 0 ≤ k; omega
      have hcn := cN_b (P := fun k => so I k % 89 = nS I c % 89) k.toNat
      have hbJ : ∀ j, 0 ≤ nJ I c 97 j ∧ nJ I c 97 j ≤ 9999 := fun j => by
        unfold nJ
        simp only [rowU, Nat.reduceEqDiff, ↓reduceIte]
        unfold fillR
        split
        · exact hdr _ (by omega) (by omega)
        · exact hb j
      have h5 : nJ I c 95 k = I 95 k := by unfold nJ; simp only [rowU, Nat.reduceEqDiff, ↓reduceIte]; exact up1_ne (by omega)
      have h6 : nJ I c 96 k = I 96 k := by unfold nJ; simp only [rowU, Nat.reduceEqDiff, ↓reduceIte]; exact up1_ne (by omega)
      rw [b192_75 L, cN_s h0]
      simp only [hk0, if_false]
      rw [b192_79 L, r193 L (by omega) (by rw [h5]; exact hkk.1) (by rw [h6]; exact hkk.2) hbJ, so_nJ (by omega) hkk.2.2, caln_r, b192_83 (by omega)]
      by_cases hq : so I k % 89 = nS I c % 89
      · rw [b01_t hq]
        simp only [ne_eq, hq, not_true_eq_false, if_false]
        rw [b192_87, b192_90 (by omega) (by omega)]
      · rw [b01_f hq]
        simp only [ne_eq, hq, not_false_eq_true, if_true]
        rw [b192_89, b192_90 (by omega) (by omega)]
  · intro k h0 h1
    have hk0 : ¬ I 94 5 ≤ k := by omega
    have hs1 := hsm k h0 (by omega)
    have m := mulb (k := k) ⟨h0, by omega⟩ (hdr k h0 (by omega))
    rw [b192_42 L, smN_s h0]
    simp only [rowU, Nat.reduceEqDiff, ↓reduceIte, hk0]
    rw [b192_46 L (by omega) (by omega) (by omega) (by omega) (by omega) (by simp only [zu2_row, rowU, Nat.reduceEqDiff, ↓reduceIte]; omega) (by simp only [zu2_row, rowU, Nat.reduceEqDiff, ↓reduceIte]; omega)]
    simp only [zu2_row, rowU, Nat.reduceEqDiff, ↓reduceIte, rowU_tw]
    rw [fillR_s (by omega) (by congr 1; omega), Int.add_assoc, Int.add_assoc]
theorem kN_f {I : Nat → Int → Int} {s n : Int} {a : Nat} (h0 : a ≠ 120) (h1 : a ≠ 121) (h2 : a ≠ 122) : kN I s n a = I a := by
  unfold kN
  rw [rowU_ne h2, rowU_ne h1, rowU_ne h0]
theorem sY_f {I : Nat → Int → Int} {s : Int} {a : Nat} (h : a < 101 ∨ (104 < a ∧ a < 110) ∨ (110 < a ∧ a < 120) ∨ 122 < a) : sY I s a = I a := by
  unfold sY
  rw [rowU_ne (by omega), kN_f (by omega) (by omega) (by omega)]
  unfold sJ
  rw [rowU_ne (by omega), rowU_ne (by omega), rowU_ne (by omega), rowU_ne (by omega)]
theorem dJ_f {I : Nat → Int → Int} {s : Int} {a : Nat} (h : a < 101 ∨ (104 < a ∧ a < 110) ∨ (110 < a ∧ a < 120) ∨ 122 < a) : dJ I s a = I a := by
  unfold dJ
  split
  · exact sY_f h
  · rfl
theorem dO_f {I : Nat → Int → Int} {s c o : Int} {a : Nat} (h : a < 101 ∨ (107 < a ∧ a < 110) ∨ (110 < a ∧ a < 120) ∨ 122 < a) : dO I s c o a = I a := by
  unfold dO dA
  rw [rowU_ne (by omega), rowU_ne (by omega), rowU_ne (by omega), rowU_ne (by omega), dJ_f (by omega)]
theorem wW_f {I : Nat → Int → Int} {s o : Int} {a : Nat} (h : a < 101 ∨ (107 < a ∧ a < 110) ∨ (110 < a ∧ a < 120) ∨ (122 < a ∧ a ≠ 126)) : wW I s o a = I a := by
  unfold wW
  split
  · unfold wR; rw [rowU_ne (by omega)]
  · rw [rowU_ne (by omega), dO_f (by omega)]
    unfold wR; rw [rowU_ne (by omega)]
theorem tH_94 {I : Nat → Int → Int} {x k : Int} (h : k ≠ 49) : tH I x 94 k = I 94 k := by
  unfold tH
  rw [rowU_eq, up1_ne h]
/-- the memory in which the told object is written, and that object -/
noncomputable def tJ (I : Nat → Int → Int) (c : Int) : Nat → Int → Int := if 0 ≤ sm I c then tH I 0 else nB (tH I 0) c
noncomputable def tO (I : Nat → Int → Int) (c : Int) : Int := if 0 ≤ sm I c then sm I c else I 94 0
noncomputable def tW (I : Nat → Int → Int) (s c : Int) : Nat → Int → Int := wW (rowU (tJ I c) 94 (up1 (tJ I c 94) 5 0)) s (tO I c)
theorem r192 {h : HP} {I : Nat → Int → Int} {s c : Int} {v3 v4 v5 v6 : MV} (L : LX 11 h 94) (W : WB I) (E : WL I) (N : WN I) (K : WK I) (hP : ∀ j, I 109 j = 0 ∨ I 109 j = 1) (hs : s = 0 ∨ s = 1) (hdd : 0 ≤ I 104 s ∧ I 104 s ≤ 30)
    (hd : 0 ≤ I 94 5 ∧ I 94 5 ≤ 12) (hc : 0 ≤ c ∧ c ≤ 3) (hb : ∀ j, 0 ≤ I 97 j ∧ I 97 j ≤ 9999) (hdr : ∀ j, 0 ≤ j → j < I 94 5 → 0 ≤ I 99 j ∧ I 99 j ≤ 9999) :
    Go 192 0 [.inr (.inl (some 94)), .inl s, .inl c, v3, v4, v5, v6] [] (mI h I) = if sm I c < 0 ∧ I 94 0 = 100 then some (mI h (tH I 3), .inl (some (.inl 0))) else some (mI h (tW I s c), .inl (some (.inl (tJ I c 98 (tO I c))))) := by
  have ht := WB_t W
  have ht1 := W.1
  have hlt := lastP_lt (P := sB I c) (I 94 0).toNat
  have hlt2 : -1 ≤ sm I c ∧ sm I c < I 94 0 := by
    refine ⟨hlt.1, ?_⟩
    have := hlt.2.1
    rw [Int.toNat_of_nonneg ht.1] at this
    exact this
  clear hlt
  have fin : ∀ (J : Nat → Int → Int) (o : Int) (w4 w5 w6 : MV), 0 ≤ o ∧ o < 120 → WL J → WN J → WK J → (∀ j, J 109 j = 0 ∨ J 109 j = 1) → 0 ≤ J 104 s ∧ J 104 s ≤ 30 → 0 ≤ J 94 0 ∧ J 94 0 ≤ 120 →
      Go 192 111 [.inr (.inl (some 94)), .inl s, .inl c, .inl o, w4, w5, w6] [] (mI h J) = some (mI h (wW (rowU J 94 (up1 (J 94) 5 0)) s o), .inl (some (.inl (J 98 o)))) := by
    intro J o w4 w5 w6 ho E N K hP hd ht
    have e0 : up1 (J 94) 5 0 0 = J 94 0 := up1_ne (by decide)
    have K2 : WK (rowU J 94 (up1 (J 94) 5 0)) := by
      refine ⟨K.1, fun p p0 p1 => ⟨(K.2 p p0 p1).1, fun k k0 k1 => ⟨?_, ((K.2 p p0 p1).2 k k0 k1).2⟩⟩⟩
      have := ((K.2 p p0 p1).2 k k0 k1).1
      simp only [rowU, Nat.reduceEqDiff, ↓reduceIte]
      rw [e0]
      exact this
    rw [b192_111 L, zu2_row, r188 (I := rowU J 94 (up1 (J 94) 5 0)) L (by simp only [rowU, Nat.reduceEqDiff, ↓reduceIte]; rw [e0]; exact ht) E N K2 hP hs ho hd, caln_v, b192_118 L ho, wW_f (by omega)]
    rfl
  by_cases hn : 0 ≤ sm I c
  · rw [if_neg (show ¬(sm I c < 0 ∧ I 94 0 = 100) from fun q => by omega), b192_0 L, r191 L ht hd, caln_r, b192_3]
    simp (disch := first | assumption | exact b01_or _ | (simp (decide := true) only [WB_U, WK_U, WL_U]; assumption) | omega | (simp only [rowU, Nat.reduceEqDiff, ↓reduceIte]; omega)) only [ne_eq, not_true_eq_false, not_false_eq_true, if_true, if_false, ite_true, ite_false, caln_v, caln_r, caln_x, Int.reduceEq, Int.reduceNe, Int.reduceLT, Int.reduceLE, Int.reduceAdd, Int.reduceMul, Int.reduceSub, hn, b192_13]
    rw [b192_14 L, zu2_row]
    simp (disch := first | assumption | exact b01_or _ | (simp (decide := true) only [WB_U, WK_U, WL_U]; assumption) | omega | (simp only [rowU, Nat.reduceEqDiff, ↓reduceIte]; omega)) only [ne_eq, not_true_eq_false, not_false_eq_true, if_true, if_false, ite_true, ite_false, caln_v, caln_r, caln_x, Int.reduceEq, Int.reduceNe, Int.reduceLT, Int.reduceLE, Int.reduceAdd, Int.reduceMul, Int.reduceSub, rowU, Nat.reduceEqDiff, ↓reduceIte, up1_eq, Int.le_refl, b192_20, hn]
    rw [show rowU I 94 (up1 (I 94) 49 0) = tH I 0 from rfl]
    have K2 : WK (tH I 0) := K
    rw [fin (tH I 0) (sm I c) _ _ _ (by omega) E N K2 hP hdd ht]
    unfold tW tJ tO
    rw [if_pos hn, if_pos hn]
  · by_cases h100 : I 94 0 = 100
    · rw [if_pos (show sm I c < 0 ∧ I 94 0 = 100 from ⟨by omega, h100⟩), b192_0 L, r191 L ht hd, caln_r, b192_3]
      simp (disch := first | assumption | exact b01_or _ | (simp (decide := true) only [WB_U, WK_U, WL_U]; assumption) | omega | (simp only [rowU, Nat.reduceEqDiff, ↓reduceIte]; omega)) only [ne_eq, not_true_eq_false, not_false_eq_true, if_true, if_false, ite_true, ite_false, caln_v, caln_r, caln_x, Int.reduceEq, Int.reduceNe, Int.reduceLT, Int.reduceLE, Int.reduceAdd, Int.reduceMul, Int.reduceSub, hn, b192_7, h100, b192_11]
      rw [b192_14 L, zu2_row]
      simp (disch := first | assumption | exact b01_or _ | (simp (decide := true) only [WB_U, WK_U, WL_U]; assumption) | omega | (simp only [rowU, Nat.reduceEqDiff, ↓reduceIte]; omega)) only [ne_eq, not_true_eq_false, not_false_eq_true, if_true, if_false, ite_true, ite_false, caln_v, caln_r, caln_x, Int.reduceEq, Int.reduceNe, Int.reduceLT, Int.reduceLE, Int.reduceAdd, Int.reduceMul, Int.reduceSub, rowU, Nat.reduceEqDiff, ↓reduceIte, up1_eq, b192_18]
      rfl
    · rw [if_neg (show ¬(sm I c < 0 ∧ I 94 0 = 100) from fun q => h100 q.2), b192_0 L, r191 L ht hd, caln_r, b192_3]
      simp (disch := first | assumption | exact b01_or _ | (simp (decide := true) only [WB_U, WK_U, WL_U]; assumption) | omega | (simp only [rowU, Nat.reduceEqDiff, ↓reduceIte]; omega)) only [ne_eq, not_true_eq_false, not_false_eq_true, if_true, if_false, ite_true, ite_false, caln_v, caln_r, caln_x, Int.reduceEq, Int.reduceNe, Int.reduceLT, Int.reduceLE, Int.reduceAdd, Int.reduceMul, Int.reduceSub, hn, b192_7, h100, b192_13]
      rw [b192_14 L, zu2_row]
      simp (disch := first | assumption | exact b01_or _ | (simp (decide := true) only [WB_U, WK_U, WL_U]; assumption) | omega | (simp only [rowU, Nat.reduceEqDiff, ↓reduceIte]; omega)) only [ne_eq, not_true_eq_false, not_false_eq_true, if_true, if_false, ite_true, ite_false, caln_v, caln_r, caln_x, Int.reduceEq, Int.reduceNe, Int.reduceLT, Int.reduceLE, Int.reduceAdd, Int.reduceMul, Int.reduceSub, rowU, Nat.reduceEqDiff, ↓reduceIte, up1_eq, Int.le_refl, b192_20, hn]
      rw [show rowU I 94 (up1 (I 94) 49 0) = tH I 0 from rfl]
      have e0 : tH I 0 94 0 = I 94 0 := tH_94 (by decide)
      have e5 : tH I 0 94 5 = I 94 5 := tH_94 (by decide)
      obtain ⟨w4, w5, w6, e⟩ := r192a (h := h) (I := tH I 0) (s := s) (c := c) (x3 := sm I c) (v4 := v4) (v5 := v5) (v6 := v6) L (by rw [e0]; omega) (by rw [e5]; exact hd) hc (fun o a b => by
        rw [e0] at b
        have := (W.2 o a b).1
        exact ⟨⟨this.1, this.2.1⟩, this.2.2.1, this.2.2.2.1⟩) hb (fun j a b => hdr j a (by rw [e5] at b; exact b))
      rw [e, e0]
      have K3 : WK (nB (tH I 0) c) := by
        refine ⟨K.1, fun p p0 p1 => ⟨(K.2 p p0 p1).1, fun k k0 k1 => ⟨?_, ((K.2 p p0 p1).2 k k0 k1).2⟩⟩⟩
        have := ((K.2 p p0 p1).2 k k0 k1).1
        have e1 : nB (tH I 0) c 94 0 = I 94 0 + 1 := by
          unfold nB
          rw [rowU_eq, up1_eq, e0]
        rw [e1]
        exact ⟨this.1, Int.lt_trans this.2 (by omega)⟩
      have e1 : nB (tH I 0) c 94 0 = I 94 0 + 1 := by
        unfold nB
        rw [rowU_eq, up1_eq, e0]
      rw [fin (nB (tH I 0) c) (I 94 0) w4 w5 w6 (by omega) E N K3 hP hdd (by rw [e1]; omega)]
      unfold tW tJ tO
      rw [if_neg hn, if_neg hn]
