/-! ===== the reference's methods (28): what deeds keep; roots ===== -/
theorem WL_sY {I : Nat → Int → Int} {s : Int} (E : WL I) : WL (sY I s) := by
  refine ⟨fun j => ?_, fun j => ?_, fun j => ?_⟩
  · unfold sY
    rw [rowU_ne (by decide), kN_f (by decide) (by decide) (by decide)]
    unfold sJ
    simp only [rowU, Nat.reduceEqDiff, ↓reduceIte]
    unfold s3 fillR
    split
    · exact b01_or _
    · exact E.1 j
  · rw [sY_f (by omega)]; exact E.2.1 j
  · unfold sY
    rw [rowU_ne (by decide), kN_f (by decide) (by decide) (by decide)]
    unfold sJ
    simp only [rowU, Nat.reduceEqDiff, ↓reduceIte]
    unfold s1 fillR
    split
    · dsimp only
      split <;> omega
    · exact E.2.2 j
theorem WL_dO {I : Nat → Int → Int} {s a o : Int} (E : WL I) : WL (dO I s a o) := by
  have EJ : WL (dJ I s) := by
    unfold dJ
    split
    · exact WL_sY E
    · exact E
  refine ⟨fun j => ?_, fun j => ?_, fun j => ?_⟩
  · unfold dO dA
    simp only [rowU, Nat.reduceEqDiff, ↓reduceIte]
    exact EJ.1 j
  · unfold dO dA
    simp only [rowU, Nat.reduceEqDiff, ↓reduceIte]
    unfold up1
    split
    · exact Or.inl rfl
    · exact EJ.2.1 j
  · unfold dO dA
    simp only [rowU, Nat.reduceEqDiff, ↓reduceIte]
    exact EJ.2.2 j
theorem sY_104n {I : Nat → Int → Int} {s u : Int} (h : u ≠ s) : sY I s 104 u = I 104 u := by
  unfold sY
  rw [rowU_eq, up1_ne h]
theorem dJ_104n {I : Nat → Int → Int} {s u : Int} (h : u ≠ s) : dJ I s 104 u = I 104 u := by
  unfold dJ
  split
  · exact sY_104n h
  · rfl
theorem dO_104e {I : Nat → Int → Int} {s a o : Int} : dO I s a o 104 s = dJ I s 104 s + 1 := by
  unfold dO dA
  rw [rowU_eq, up1_eq]
theorem dO_104n {I : Nat → Int → Int} {s u a o : Int} (h : u ≠ s) : dO I s a o 104 u = I 104 u := by
  unfold dO dA
  rw [rowU_eq, up1_ne h, dJ_104n h]
theorem WT_dO {I : Nat → Int → Int} {s a o : Int} (W : WT I) (hs : s = 0 ∨ s = 1) : WT (dO I s a o) := by
  have e : ∀ b, b < 101 ∨ (107 < b ∧ b < 110) ∨ (110 < b ∧ b < 120) ∨ 122 < b → dO I s a o b = I b := fun b h => dO_f h
  refine ⟨?_, WL_dO W.2.1, ?_, ?_, ?_, ?_, ?_⟩
  · rw [WB_e (by rw [e 94 (by omega)]) (e 95 (by omega)) (e 96 (by omega)) (e 97 (by omega)) (e 98 (by omega))]; exact W.1
  · unfold WN; rw [e 118 (by omega)]; exact W.2.2.1
  · rw [WK_e (by rw [e 94 (by omega)]) (e 108 (by omega)) (e 111 (by omega)) (e 112 (by omega)) (e 113 (by omega))]; exact W.2.2.2.1
  · rw [e 109 (by omega)]; exact W.2.2.2.2.1
  · intro u hu
    by_cases h : u = s
    · subst h; exact dO_104 (W.2.2.2.2.2.1 u hu)
    · rw [dO_104n h]; exact W.2.2.2.2.2.1 u hu
  · rw [e 97 (by omega)]; exact W.2.2.2.2.2.2
theorem WT_101 {I : Nat → Int → Int} {k v : Int} (W : WT I) (hv : 0 ≤ v ∧ v ≤ 31) : WT (zu2 I 101 k v) := by
  rw [zu2_row]
  have e : ∀ b, b ≠ 101 → rowU I 101 (up1 (I 101) k v) b = I b := fun b h => rowU_ne h
  refine ⟨?_, ⟨W.2.1.1, W.2.1.2.1, fun j => ?_⟩, W.2.2.1, ?_, W.2.2.2.2.1, W.2.2.2.2.2.1, W.2.2.2.2.2.2⟩
  · rw [WB_e rfl (e 95 (by omega)) (e 96 (by omega)) (e 97 (by omega)) (e 98 (by omega))]; exact W.1
  · rw [rowU_eq]
    unfold up1
    split
    · exact hv
    · exact W.2.1.2.2 j
  · rw [WK_e rfl (e 108 (by omega)) (e 111 (by omega)) (e 112 (by omega)) (e 113 (by omega))]; exact W.2.2.2.1
theorem WT_109 {I : Nat → Int → Int} {k v : Int} (W : WT I) (hv : v = 0 ∨ v = 1) : WT (zu2 I 109 k v) := by
  rw [zu2_row]
  have e : ∀ b, b ≠ 109 → rowU I 109 (up1 (I 109) k v) b = I b := fun b h => rowU_ne h
  refine ⟨?_, W.2.1, W.2.2.1, ?_, fun j => ?_, W.2.2.2.2.2.1, W.2.2.2.2.2.2⟩
  · rw [WB_e rfl (e 95 (by omega)) (e 96 (by omega)) (e 97 (by omega)) (e 98 (by omega))]; exact W.1
  · rw [WK_e rfl (e 108 (by omega)) (e 111 (by omega)) (e 112 (by omega)) (e 113 (by omega))]; exact W.2.2.2.1
  · rw [rowU_eq]
    unfold up1
    split
    · exact hv
    · exact W.2.2.2.2.1 j
/-- logs and ticks are in their ranges -/
def WG (I : Nat → Int → Int) : Prop := (∀ s k, s = 0 ∨ s = 1 → 600 * s ≤ k → k < 600 * s + I 119 s → (0 ≤ I 123 k ∧ I 123 k ≤ I 94 0) ∧ 0 ≤ I 124 k ∧ I 124 k ≤ I 94 0) ∧ (∀ k, 0 ≤ I 125 k ∧ I 125 k ≤ 1000000) ∧ (∀ k, -1000 ≤ I 126 k ∧ I 126 k ≤ 1000000) ∧ (0 ≤ I 94 8 ∧ I 94 8 ≤ 1000000) ∧ ∀ s, s = 0 ∨ s = 1 → 0 ≤ I 119 s ∧ I 119 s ≤ 600
def WRp (I : Nat → Int → Int) : Prop := ∀ s k, s = 0 ∨ s = 1 → 0 ≤ k → k < I 94 0 → I 118 (120 * s + k) ≤ I 94 0
theorem r257 {h : HP} {I : Nat → Int → Int} {P : Int → Prop} {x : Int} (L : LX 11 h 94) (hx : x ≤ 120) : Go 257 0 [.inr (.inl (some 94)), .inl x] [] (mI h (rowU I 133 (ind P))) = some (mI h (rowU I 133 (ind (fun j => P j ∨ (0 < x ∧ j = x - 1)))), .inl none) := by
  rw [b257_0]
  by_cases h0 : x ≤ 0
  · rw [if_pos h0, b257_9, rowU_ind (Q := P) (fun j => ⟨fun q => q.elim id (fun q => by omega), Or.inl⟩)]
  · rw [if_neg h0, b257_2 L (by omega) (by omega), b257_9, zu2_row, rowU_tw, rowU_eq, up1_ind1, rowU_ind (Q := fun j => P j ∨ (0 < x ∧ j = x - 1)) (fun j => ⟨fun q => q.imp id (fun q => ⟨by omega, q⟩), fun q => q.imp id And.right⟩)]
def Lg (I : Nat → Int → Int) (s n j : Int) : Prop := ∃ k, 600 * s ≤ k ∧ k < n ∧ I 94 8 - I 125 k < 20 ∧ ((0 < I 123 k ∧ j = I 123 k - 1) ∨ (0 < I 124 k ∧ j = I 124 k - 1))
/-- an object is a root by itself -/
def Ro (I : Nat → Int → Int) (s k : Int) : Prop := I 127 (120 * s + k) ≠ 0 ∨ 0 < I 118 (120 * s + k) ∨ (Th I s k ∧ I 94 8 - I 126 (120 * s + k) < 10)
def Ob (I : Nat → Int → Int) (s n j : Int) : Prop := ∃ k, 0 ≤ k ∧ k < n ∧ ((j = k ∧ Ro I s k) ∨ (0 < I 118 (120 * s + k) ∧ j = I 118 (120 * s + k) - 1))
def Rt (I : Nat → Int → Int) (s j : Int) : Prop := (Rf I s j ∨ Lg I s (600 * s + I 119 s) j) ∨ Ob I s (I 94 0) j
theorem r256 {h : HP} {I : Nat → Int → Int} {s : Int} {v2 v3 : MV} (L : LX 11 h 94) (W : WT I) (R : WR I) (G : WG I) (Rp : WRp I) (Z : Z133 I) (hs : s = 0 ∨ s = 1) :
    Go 256 0 [.inr (.inl (some 94)), .inl s, v2, v3] [] (mI h I) = some (mI h (rowU I 133 (ind (Cl (Eg I s) (Rt I s)))), .inl none) := by
  have ht := WB_t W.1
  have hT := W.1.1
  have hl := G.2.2.2.2 s hs
  have ht8 := G.2.2.2.1
  rw [b256_0 L, r172 L Z, caln_v, b256_2 (by omega)]
  have key1 := lpU (fun k => Go 256 6 [.inr (.inl (some 94)), .inl s, .inl k, v3] [] (mI h (rowU I 133 (ind (fun j => ∃ i, 6 * s ≤ i ∧ i < k ∧ 0 < I 115 i ∧ j = I 115 i - 1))))) (6 * s) (6 * s + 6) (by omega) ?_
  rotate_left
  · intro k k0 k1
    have hr := R k (by omega) (by omega)
    rw [b256_6 (by omega) (by omega), if_neg (by omega), b256_13 L (by omega)]
    simp only [rowU, Nat.reduceEqDiff, ↓reduceIte]
    rw [r257 L (by omega), caln_v, b256_19 (by omega), rowU_ind (Q := fun j => ∃ i, 6 * s ≤ i ∧ i < k + 1 ∧ 0 < I 115 i ∧ j = I 115 i - 1)]
    intro j
    constructor
    · rintro (⟨i, a, b, c⟩ | q)
      · exact ⟨i, a, by omega, c⟩
      · exact ⟨k, k0, by omega, q⟩
    · rintro ⟨i, a, b, c⟩
      by_cases hi : i = k
      · subst hi; exact Or.inr c
      · exact Or.inl ⟨i, a, by omega, c⟩
  rw [rowU_ind (Q := fun _ => False) (fun j => ⟨fun ⟨i, a, b, _⟩ => by omega, False.elim⟩)] at key1
  rw [key1, b256_6 (by omega) (by omega), if_pos (Int.le_refl _), b256_21 (by omega)]
  rw [show (fun j => ∃ i, 6 * s ≤ i ∧ i < 6 * s + 6 ∧ 0 < I 115 i ∧ j = I 115 i - 1) = Rf I s from rfl]
  have key2 := lpU (fun k => Go 256 25 [.inr (.inl (some 94)), .inl s, .inl k, v3] [] (mI h (rowU I 133 (ind (fun j => Rf I s j ∨ Lg I s k j))))) (600 * s) (600 * s + I 119 s) (by omega) ?_
  rotate_left
  · intro k k0 k1
    have hg := G.1 s k hs k0 k1
    have h5 := G.2.1 k
    have hst : ∀ j, Lg I s (k + 1) j ↔ Lg I s k j ∨ (I 94 8 - I 125 k < 20 ∧ ((0 < I 123 k ∧ j = I 123 k - 1) ∨ (0 < I 124 k ∧ j = I 124 k - 1))) := by
      intro j
      constructor
      · rintro ⟨i, a, b, c⟩
        by_cases hi : i = k
        · subst hi; exact Or.inr c
        · exact Or.inl ⟨i, a, by omega, c⟩
      · rintro (⟨i, a, b, c⟩ | q)
        · exact ⟨i, a, by omega, c⟩
        · exact ⟨k, k0, by omega, q⟩
    rw [b256_25 (by omega) L (by omega) (by simp only [rowU, Nat.reduceEqDiff, ↓reduceIte]; omega)]
    simp only [rowU, Nat.reduceEqDiff, ↓reduceIte]
    rw [if_neg (by omega), b256_35 L (by omega) (by simp only [rowU, Nat.reduceEqDiff, ↓reduceIte]; omega)]
    simp only [rowU, Nat.reduceEqDiff, ↓reduceIte]
    by_cases hq : 20 ≤ I 94 8 - I 125 k
    · rw [if_pos hq, b256_56 (by omega), rowU_ind (Q := fun j => Rf I s j ∨ Lg I s (k + 1) j)]
      intro j
      rw [hst]
      exact ⟨fun q => q.imp id Or.inl, fun q => q.imp id (fun q => q.elim id (fun q => by omega))⟩
    · rw [if_neg hq, b256_44 L (by omega)]
      simp only [rowU, Nat.reduceEqDiff, ↓reduceIte]
      rw [r257 L (by omega), caln_v, b256_50 L (by omega)]
      simp only [rowU, Nat.reduceEqDiff, ↓reduceIte]
      rw [r257 L (by omega), caln_v, b256_56 (by omega), rowU_ind (Q := fun j => Rf I s j ∨ Lg I s (k + 1) j)]
      intro j
      rw [hst]
      constructor
      · rintro ((q | q) | q)
        · exact q.imp id Or.inl
        · exact Or.inr (Or.inr ⟨by omega, Or.inl q⟩)
        · exact Or.inr (Or.inr ⟨by omega, Or.inr q⟩)
      · rintro (q | q | ⟨_, q | q⟩)
        · exact Or.inl (Or.inl (Or.inl q))
        · exact Or.inl (Or.inl (Or.inr q))
        · exact Or.inl (Or.inr q)
        · exact Or.inr q
  rw [rowU_ind (Q := Rf I s) (fun j => ⟨fun q => q.elim id (fun ⟨i, a, b, _⟩ => by omega), Or.inl⟩)] at key2
  rw [key2, b256_25 (by omega) L (by omega) (by simp only [rowU, Nat.reduceEqDiff, ↓reduceIte]; omega)]
  simp only [rowU, Nat.reduceEqDiff, ↓reduceIte]
  rw [if_pos (Int.le_refl _), b256_58]
  have key3 := lpE (fun k (v : MV) => Go 256 60 [.inr (.inl (some 94)), .inl s, .inl k, v] [] (mI h (rowU I 133 (ind (fun j => (Rf I s j ∨ Lg I s (600 * s + I 119 s) j) ∨ Ob I s k j))))) (fun _ _ => True) 0 (I 94 0) ht.1 ?_ v3 trivial
  · obtain ⟨v, e, -⟩ := key3
    rw [rowU_ind (Q := fun j => Rf I s j ∨ Lg I s (600 * s + I 119 s) j) (fun j => ⟨fun q => q.elim id (fun ⟨i, a, b, _⟩ => by omega), Or.inl⟩)] at e
    rw [e, b256_60 L]
    simp only [rowU, Nat.reduceEqDiff, ↓reduceIte]
    rw [if_pos (Int.le_refl _), b256_112 L]
    rw [show (fun j => (Rf I s j ∨ Lg I s (600 * s + I 119 s) j) ∨ Ob I s (I 94 0) j) = Rt I s from rfl, r173 L W.1 hs (S := Rt I s), caln_v, b256_115]
    rintro j ((⟨k, a, b, c, d⟩ | ⟨k, a, b, c, d⟩) | ⟨k, a, b, c⟩)
    · have := R k (by omega) (by omega); omega
    · have := G.1 s k hs a b; omega
    · have := Rp s k hs a b
      obtain c | c := c
      · have := c.1; omega
      · omega
  · intro k v k0 k1 _
    obtain ⟨S0, hS0⟩ : ∃ S0 : Int → Prop, S0 = fun j => Rf I s j ∨ Lg I s (600 * s + I 119 s) j := ⟨_, rfl⟩
    have hS1 : (fun j => (Rf I s j ∨ Lg I s (600 * s + I 119 s) j) ∨ Ob I s k j) = fun j => S0 j ∨ Ob I s k j := by rw [hS0]
    have hS2 : (fun j => (Rf I s j ∨ Lg I s (600 * s + I 119 s) j) ∨ Ob I s (k + 1) j) = fun j => S0 j ∨ Ob I s (k + 1) j := by rw [hS0]
    rw [hS1, hS2]
    obtain ⟨P, hP⟩ : ∃ P : Int → Prop, P = fun j => S0 j ∨ Ob I s k j := ⟨_, rfl⟩
    rw [← hP]
    have hr := Rp s k hs k0 k1
    have hn := W.2.2.1 (120 * s + k)
    have h6 := G.2.2.1 (120 * s + k)
    have K2 : WK (rowU I 133 (ind P)) := by rw [WK_U (by decide)]; exact W.2.2.2.1
    have T2 : Th (rowU I 133 (ind P)) = Th I := Th_U (by decide)
    have hfin : ∀ (t : Int) (q : Prop), t = b01 q → (q ↔ Ro I s k) → Go 256 102 [.inr (.inl (some 94)), .inl s, .inl k, .inl (120 * s + k)] [.inl t, .inl (b01 (P k)), .inl k, .inr (.inl (some 133))] (mI h (rowU I 133 (ind P))) = Go 256 60 [.inr (.inl (some 94)), .inl s, .inl (k + 1), .inl (120 * s + k)] [] (mI h (rowU I 133 (ind (fun j => S0 j ∨ Ob I s (k + 1) j)))) := by
      intro t q et hq
      rw [b256_102 L (by omega) (by rw [et, zor_b]; exact b01_or _) (by omega), et, zor_b, zu2_row, rowU_tw, rowU_eq]
      have e1 : up1 (ind P) k (b01 (P k ∨ q)) = ind (fun j => P j ∨ (j = k ∧ Ro I s k)) := by
        funext j
        unfold up1 ind
        by_cases hj : j = k
        · subst hj
          rw [if_pos rfl]
          exact b01_c ⟨fun c => c.imp id (fun c => ⟨rfl, hq.mp c⟩), fun c => c.imp id (fun c => hq.mpr c.2)⟩
        · rw [if_neg hj]
          exact b01_c ⟨Or.inl, fun c => c.elim id (fun c => absurd c.1 hj)⟩
      rw [e1, rowU_ne (by decide), r257 L (by omega), caln_v, b256_110 (by omega), rowU_ind (Q := fun j => S0 j ∨ Ob I s (k + 1) j)]
      intro j
      rw [hP]
      constructor
      · rintro (((q | ⟨i, a, b, c⟩) | q) | q)
        · exact Or.inl q
        · exact Or.inr ⟨i, a, by omega, c⟩
        · exact Or.inr ⟨k, k0, by omega, Or.inl q⟩
        · exact Or.inr ⟨k, k0, by omega, Or.inr q⟩
      · rintro (q | ⟨i, a, b, c⟩)
        · exact Or.inl (Or.inl (Or.inl q))
        · by_cases hi : i = k
          · subst hi
            obtain c | c := c
            · exact Or.inl (Or.inr c)
            · exact Or.inr c
          · exact Or.inl (Or.inl (Or.inr ⟨i, a, by omega, c⟩))
    refine ⟨.inl (120 * s + k), ?_, trivial⟩
    have h1 : (1 : Int) = b01 True := (b01_t trivial).symm
    have h0 : (0 : Int) = b01 False := (b01_f (fun q => q)).symm
    rw [b256_60 L]
    simp only [rowU, Nat.reduceEqDiff, ↓reduceIte]
    rw [if_neg (by omega), b256_64 (by omega) (by omega) L (by omega) (by omega)]
    simp only [rowU, Nat.reduceEqDiff, ↓reduceIte]
    rw [show ind P k = b01 (P k) from rfl]
    by_cases q1 : I 127 (120 * s + k) = 0
    · rw [if_neg (fun q => q q1), b256_80 L (by omega)]
      simp only [rowU, Nat.reduceEqDiff, ↓reduceIte]
      by_cases q2 : 0 < I 118 (120 * s + k)
      · rw [if_pos q2, b256_99, hfin 1 True h1 ⟨fun _ => Or.inr (Or.inl q2), fun _ => trivial⟩]
      · rw [if_neg q2, b256_85 L, r179 L K2 hs (by omega), T2, caln_r, b256_89]
        by_cases q3 : Th I s k
        · rw [b01_t q3, if_neg neg1_ne, b256_90 L (by omega) (by simp only [rowU, Nat.reduceEqDiff, ↓reduceIte]; omega)]
          simp only [rowU, Nat.reduceEqDiff, ↓reduceIte]
          by_cases q4 : 10 ≤ I 94 8 - I 126 (120 * s + k)
          · rw [if_pos q4, b256_101, hfin 0 False h0 ⟨False.elim, fun q => q.elim (fun q => q q1) (fun q => q.elim q2 (fun q => by have := q.2; omega))⟩]
          · rw [if_neg q4, b256_99, hfin 1 True h1 ⟨fun _ => Or.inr (Or.inr ⟨q3, by omega⟩), fun _ => trivial⟩]
        · rw [b01_f q3, if_pos rfl, b256_101, hfin 0 False h0 ⟨False.elim, fun q => q.elim (fun q => q q1) (fun q => q.elim q2 (fun q => q3 q.1))⟩]
    · rw [if_pos q1, b256_99, hfin 1 True h1 ⟨fun _ => Or.inl q1, fun _ => trivial⟩]
