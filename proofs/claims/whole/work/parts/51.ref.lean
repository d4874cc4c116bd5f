/-! ===== the reference's methods (2): what is reached ===== -/
def Lk (I : Nat → Int → Int) (o j : Int) : Prop := 0 ≤ j ∧ j < I 96 o ∧ ((I 95 o = 1 ∧ j % 2 = 1) ∨ (I 95 o = 2 ∧ j ≠ 1) ∨ (I 95 o = 3 ∧ j = 0))
def WB (I : Nat → Int → Int) : Prop := (0 ≤ I 94 0 ∧ I 94 0 ≤ 100) ∧ ∀ o, 0 ≤ o → o < I 94 0 → (0 ≤ I 95 o ∧ I 95 o ≤ 3 ∧ 0 ≤ I 96 o ∧ I 96 o ≤ 12 ∧ (I 95 o = 1 → I 96 o % 2 = 0) ∧ (I 95 o = 2 → 2 ≤ I 96 o ∧ I 96 o ≤ 4) ∧ (I 95 o = 3 → I 96 o = 1)) ∧ ∀ j, Lk I o j → 0 ≤ atR I o j ∧ atR I o j < o
def Eg (I : Nat → Int → Int) (s a b : Int) : Prop := ∃ j, Lk I a j ∧ (I 95 a = 2 → 2 ≤ j → I 116 (120 * s + a) = 0) ∧ b = atR I a j
theorem atR_U {I : Nat → Int → Int} {a : Nat} {f : Int → Int} (ha : 99 ≤ a) : atR (rowU I a f) = atR I := by
  funext o j
  unfold atR fnd
  rw [rowU_ne (by omega), rowU_ne (by omega), rowU_ne (by omega)]
theorem Lk_U {I : Nat → Int → Int} {a : Nat} {f : Int → Int} (ha : 99 ≤ a) : Lk (rowU I a f) = Lk I := by
  funext o j
  unfold Lk
  rw [rowU_ne (by omega), rowU_ne (by omega)]
theorem WB_U {I : Nat → Int → Int} {a : Nat} {f : Int → Int} (ha : 99 ≤ a) : WB (rowU I a f) = WB I := by
  unfold WB
  rw [atR_U ha, Lk_U ha, rowU_ne (by omega), rowU_ne (by omega), rowU_ne (by omega)]
theorem Eg_U {I : Nat → Int → Int} {a : Nat} {f : Int → Int} (ha : 99 ≤ a) (h2 : a ≠ 116) : Eg (rowU I a f) = Eg I := by
  funext s o j
  unfold Eg
  rw [atR_U ha, Lk_U ha, rowU_ne (by omega), rowU_ne (fun q => h2 q.symm)]
theorem WB_t {I : Nat → Int → Int} (W : WB I) : 0 ≤ I 94 0 ∧ I 94 0 ≤ 120 := ⟨W.1.1, by have := W.1.2; omega⟩
theorem Eg_lt {I : Nat → Int → Int} (W : WB I) {s a b : Int} (ha : 0 ≤ a ∧ a < I 94 0) (e : Eg I s a b) : 0 ≤ b ∧ b < a := by
  obtain ⟨j, l, -, rfl⟩ := e
  exact (W.2 a ha.1 ha.2).2 j l
/-- places below k whose link counts -/
def Eb (I : Nat → Int → Int) (s a k b : Int) : Prop := ∃ j, j < k ∧ Lk I a j ∧ (I 95 a = 2 → 2 ≤ j → I 116 (120 * s + a) = 0) ∧ b = atR I a j
theorem Eb_0 {I : Nat → Int → Int} {s a k b : Int} (h : k ≤ 0) : ¬ Eb I s a k b := fun ⟨j, h1, l, _⟩ => by have := l.1; omega
theorem Eb_n {I : Nat → Int → Int} {s a k b : Int} (h : I 96 a ≤ k) : Eb I s a k b ↔ Eg I s a b := by
  constructor
  · rintro ⟨j, -, l⟩; exact ⟨j, l⟩
  · rintro ⟨j, l⟩; exact ⟨j, by have := l.1.2.1; omega, l⟩
theorem Eb_s {I : Nat → Int → Int} {s a k k1 j : Int} (hk : k ≤ j) (hj : j < k1) (l : Lk I a j) (hsh : I 95 a = 2 → 2 ≤ j → I 116 (120 * s + a) = 0) (hu : ∀ i, k ≤ i → i < k1 → Lk I a i → i = j) (b : Int) : Eb I s a k1 b ↔ Eb I s a k b ∨ b = atR I a j := by
  constructor
  · rintro ⟨i, h1, h2, h3, h4⟩
    by_cases hi : i < k
    · exact Or.inl ⟨i, hi, h2, h3, h4⟩
    · have := hu i (by omega) h1 h2
      subst this
      exact Or.inr h4
  · rintro (⟨i, h1, h2, h3, h4⟩ | hb)
    · exact ⟨i, by omega, h2, h3, h4⟩
    · exact ⟨j, hj, l, hsh, hb⟩
theorem Eb_g {I : Nat → Int → Int} {s a k : Int} (hu : ∀ i, k ≤ i → Lk I a i → I 95 a = 2 ∧ 2 ≤ i ∧ I 116 (120 * s + a) ≠ 0) (b : Int) : Eg I s a b ↔ Eb I s a k b := by
  constructor
  · rintro ⟨i, h2, h3, h4⟩
    by_cases hi : i < k
    · exact ⟨i, hi, h2, h3, h4⟩
    · obtain ⟨q1, q2, q3⟩ := hu i (by omega) h2
      exact absurd (h3 q1 q2) q3
  · rintro ⟨i, -, h2, h3, h4⟩
    exact ⟨i, h2, h3, h4⟩
theorem r171 {h : HP} {I : Nat → Int → Int} {P : Int → Prop} {s o : Int} {v3 v4 : MV} (L : LX 11 h 94) (W : WB I) (hs : s = 0 ∨ s = 1) (ho : 0 ≤ o ∧ o < I 94 0) :
    Go 171 0 [.inr (.inl (some 94)), .inl s, .inl o, v3, v4] [] (mI h (rowU I 133 (ind P))) = some (mI h (rowU I 133 (ind (fun j => P j ∨ Eg I s o j))), .inl (some (.inl (b01 (∃ b, Eg I s o b ∧ ¬P b))))) := by
  have ht := WB_t W
  have ht1 := W.1
  obtain ⟨⟨k0, k3, s0, s12, p1, p2, p3⟩, lt⟩ := W.2 o ho.1 ho.2
  have ht2 : ∀ Q : Int → Prop, 0 ≤ rowU I 133 (ind Q) 94 0 ∧ rowU I 133 (ind Q) 94 0 ≤ 120 := fun Q => by rw [rowU_ne (by decide)]; exact ht
  have eat : ∀ (Q : Int → Prop) (a j : Int), atR (rowU I 133 (ind Q)) a j = atR I a j := fun Q a j => by rw [atR_U (by decide)]
  by_cases c1 : I 95 o = 1
  · have d2 : ¬ I 95 o = 2 := by omega
    have d3 : ¬ I 95 o = 3 := by omega
    have key := lpU (fun i => Go 171 10 [.inr (.inl (some 94)), .inl s, .inl o, .inl (b01 (∃ b, Eb I s o (1 + 2 * i) b ∧ ¬P b)), .inl (1 + 2 * i)] [] (mI h (rowU I 133 (ind (fun j => P j ∨ Eb I s o (1 + 2 * i) j))))) 0 (I 96 o / 2) (by omega) ?_
    · have e0 : ∀ b, ¬ Eb I s o (1 + 2 * 0) b := fun b ⟨j, h1, l, _⟩ => by have := l.1; have := l.2.2; omega
      have e1 : ∀ b, Eb I s o (1 + 2 * (I 96 o / 2)) b ↔ Eg I s o b := fun b => Eb_n (by have := p1 c1; omega)
      simp only [e0, e1, or_false, false_and, exists_false, b01_f (fun q : False => q)] at key
      simp (disch := first | assumption | exact b01_or _ | (simp (decide := true) only [WB_U, WK_U, WL_U]; assumption) | omega | (simp only [rowU, Nat.reduceEqDiff, ↓reduceIte]; omega)) only [ne_eq, not_true_eq_false, not_false_eq_true, if_true, if_false, ite_true, ite_false, caln_v, caln_r, caln_x, Int.reduceEq, Int.reduceNe, Int.reduceLT, Int.reduceLE, Int.reduceAdd, Int.reduceMul, Int.reduceSub, rowU, Nat.reduceEqDiff, ↓reduceIte, b171_0, b171_8, b171_16, b171_22, b171_23, b171_27, b171_33, b171_38, b171_39, b171_48, b171_57, b171_63, b171_64, b171_68, b171_74, b171_79, b171_80, b171_81, c1]
      refine Eq.trans ?_ (key.trans ?_)
      · rfl
      · have hk : I 96 o ≤ 1 + 2 * (I 96 o / 2) := by omega
        rw [b171_10 L (by omega)]
        simp (disch := first | assumption | exact b01_or _ | (simp (decide := true) only [WB_U, WK_U, WL_U]; assumption) | omega | (simp only [rowU, Nat.reduceEqDiff, ↓reduceIte]; omega)) only [ne_eq, not_true_eq_false, not_false_eq_true, if_true, if_false, ite_true, ite_false, caln_v, caln_r, caln_x, Int.reduceEq, Int.reduceNe, Int.reduceLT, Int.reduceLE, Int.reduceAdd, Int.reduceMul, Int.reduceSub, rowU, Nat.reduceEqDiff, ↓reduceIte, b171_0, b171_8, b171_16, b171_22, b171_23, b171_27, b171_33, b171_38, b171_39, b171_48, b171_57, b171_63, b171_64, b171_68, b171_74, b171_79, b171_80, b171_81, c1, d2, d3, hk, b01_or]
    · intro i hi0 hi1
      have hk : ¬ I 96 o ≤ 1 + 2 * i := by omega
      have hl : Lk I o (1 + 2 * i) := ⟨by omega, by omega, Or.inl ⟨c1, by omega⟩⟩
      have hst : ∀ b, Eb I s o (1 + 2 * (i + 1)) b ↔ Eb I s o (1 + 2 * i) b ∨ b = atR I o (1 + 2 * i) :=
        Eb_s (Int.le_refl _) (by omega) hl (fun q => absurd q d2) (fun i1 q1 q2 q3 => by have := q3.2.2; omega)
      have hlt := lt _ hl
      rw [b171_10 L (by omega)]
      simp (disch := first | assumption | exact b01_or _ | (simp (decide := true) only [WB_U, WK_U, WL_U]; assumption) | omega | (simp only [rowU, Nat.reduceEqDiff, ↓reduceIte]; omega)) only [ne_eq, not_true_eq_false, not_false_eq_true, if_true, if_false, ite_true, ite_false, caln_v, caln_r, caln_x, Int.reduceEq, Int.reduceNe, Int.reduceLT, Int.reduceLE, Int.reduceAdd, Int.reduceMul, Int.reduceSub, rowU, Nat.reduceEqDiff, ↓reduceIte, b171_0, b171_8, b171_16, b171_22, b171_23, b171_27, b171_33, b171_38, b171_39, b171_48, b171_57, b171_63, b171_64, b171_68, b171_74, b171_79, b171_80, b171_81, hk, r169 L (ht2 _), eat, r170, zor_b]
      rw [ind_st1 hst, ind_st2 hst]
      rw [show 1 + 2 * (i + 1) = 1 + 2 * i + 2 by omega]
  · by_cases c2 : I 95 o = 2
    · have d3 : ¬ I 95 o = 3 := by omega
      have q2 := p2 c2
      have l0 : Lk I o 0 := ⟨by omega, by omega, Or.inr (Or.inl ⟨c2, by omega⟩)⟩
      have a0 := lt 0 l0
      have e1 : ∀ b, Eb I s o 2 b ↔ b = atR I o 0 := fun b => by
        rw [Eb_s (k := 0) (k1 := 2) (j := 0) (Int.le_refl _) (by omega) l0 (fun _ q => by omega) (fun i q1 q2 q3 => by have := q3.2.2; omega)]
        exact ⟨fun q => q.resolve_left (Eb_0 (Int.le_refl _)), Or.inr⟩
      simp (disch := first | assumption | exact b01_or _ | (simp (decide := true) only [WB_U, WK_U, WL_U]; assumption) | omega | (simp only [rowU, Nat.reduceEqDiff, ↓reduceIte]; omega)) only [ne_eq, not_true_eq_false, not_false_eq_true, if_true, if_false, ite_true, ite_false, caln_v, caln_r, caln_x, Int.reduceEq, Int.reduceNe, Int.reduceLT, Int.reduceLE, Int.reduceAdd, Int.reduceMul, Int.reduceSub, rowU, Nat.reduceEqDiff, ↓reduceIte, b171_0, b171_8, b171_16, b171_22, b171_23, b171_27, b171_33, b171_38, b171_39, b171_48, b171_57, b171_63, b171_64, b171_68, b171_74, b171_79, b171_80, b171_81, c1, c2, r169 L (ht2 _), eat, r170]
      by_cases hsh : I 116 (120 * s + o) = 0
      · have key := lpU (fun k => Go 171 42 [.inr (.inl (some 94)), .inl s, .inl o, .inl (b01 (∃ b, Eb I s o k b ∧ ¬P b)), .inl k] [] (mI h (rowU I 133 (ind (fun j => P j ∨ Eb I s o k j))))) 2 (I 96 o) (by omega) ?_
        · have e2 : ∀ b, Eb I s o (I 96 o) b ↔ Eg I s o b := fun b => Eb_n (Int.le_refl _)
          have e3 : (∃ b, b = atR I o 0 ∧ ¬P b) ↔ ¬P (atR I o 0) := ⟨fun ⟨b, q, r⟩ => q ▸ r, fun r => ⟨_, rfl, r⟩⟩
          simp only [e1, e2, e3] at key
          clear e3
          refine key.trans ?_
          rw [b171_42 L (by omega)]
          simp (disch := first | assumption | exact b01_or _ | (simp (decide := true) only [WB_U, WK_U, WL_U]; assumption) | omega | (simp only [rowU, Nat.reduceEqDiff, ↓reduceIte]; omega)) only [ne_eq, not_true_eq_false, not_false_eq_true, if_true, if_false, ite_true, ite_false, caln_v, caln_r, caln_x, Int.reduceEq, Int.reduceNe, Int.reduceLT, Int.reduceLE, Int.reduceAdd, Int.reduceMul, Int.reduceSub, rowU, Nat.reduceEqDiff, ↓reduceIte, b171_0, b171_8, b171_16, b171_22, b171_23, b171_27, b171_33, b171_38, b171_39, b171_48, b171_57, b171_63, b171_64, b171_68, b171_74, b171_79, b171_80, b171_81, c1, c2, d3, Int.le_refl]
        · intro k hk0 hk1
          have hk : ¬ I 96 o ≤ k := by omega
          have hl : Lk I o k := ⟨by omega, by omega, Or.inr (Or.inl ⟨c2, by omega⟩)⟩
          have hst : ∀ b, Eb I s o (k + 1) b ↔ Eb I s o k b ∨ b = atR I o k :=
            Eb_s (Int.le_refl _) (by omega) hl (fun _ _ => hsh) (fun i1 q1 q2 q3 => by omega)
          have hlt := lt _ hl
          rw [b171_42 L (by omega)]
          simp (disch := first | assumption | exact b01_or _ | (simp (decide := true) only [WB_U, WK_U, WL_U]; assumption) | omega | (simp only [rowU, Nat.reduceEqDiff, ↓reduceIte]; omega)) only [ne_eq, not_true_eq_false, not_false_eq_true, if_true, if_false, ite_true, ite_false, caln_v, caln_r, caln_x, Int.reduceEq, Int.reduceNe, Int.reduceLT, Int.reduceLE, Int.reduceAdd, Int.reduceMul, Int.reduceSub, rowU, Nat.reduceEqDiff, ↓reduceIte, b171_0, b171_8, b171_16, b171_22, b171_23, b171_27, b171_33, b171_38, b171_39, b171_48, b171_57, b171_63, b171_64, b171_68, b171_74, b171_79, b171_80, b171_81, hk, hsh, r169 L (ht2 _), eat, r170, zor_b]
          rw [ind_st1 hst, ind_st2 hst]
      · have e2 : ∀ b, Eg I s o b ↔ b = atR I o 0 := fun b => by
          rw [← e1]
          exact Eb_g (fun i q1 q2 => ⟨c2, q1, hsh⟩) b
        have e3 : (∃ b, b = atR I o 0 ∧ ¬P b) ↔ ¬P (atR I o 0) := ⟨fun ⟨b, q, r⟩ => q ▸ r, fun r => ⟨_, rfl, r⟩⟩
        simp only [e2, e3]
        clear e3
        rw [b171_42 L (by omega)]
        by_cases hk : I 96 o ≤ 2
        · simp (disch := first | assumption | exact b01_or _ | (simp (decide := true) only [WB_U, WK_U, WL_U]; assumption) | omega | (simp only [rowU, Nat.reduceEqDiff, ↓reduceIte]; omega)) only [ne_eq, not_true_eq_false, not_false_eq_true, if_true, if_false, ite_true, ite_false, caln_v, caln_r, caln_x, Int.reduceEq, Int.reduceNe, Int.reduceLT, Int.reduceLE, Int.reduceAdd, Int.reduceMul, Int.reduceSub, rowU, Nat.reduceEqDiff, ↓reduceIte, b171_0, b171_8, b171_16, b171_22, b171_23, b171_27, b171_33, b171_38, b171_39, b171_48, b171_57, b171_63, b171_64, b171_68, b171_74, b171_79, b171_80, b171_81, c1, c2, d3, hk]
        · simp (disch := first | assumption | exact b01_or _ | (simp (decide := true) only [WB_U, WK_U, WL_U]; assumption) | omega | (simp only [rowU, Nat.reduceEqDiff, ↓reduceIte]; omega)) only [ne_eq, not_true_eq_false, not_false_eq_true, if_true, if_false, ite_true, ite_false, caln_v, caln_r, caln_x, Int.reduceEq, Int.reduceNe, Int.reduceLT, Int.reduceLE, Int.reduceAdd, Int.reduceMul, Int.reduceSub, rowU, Nat.reduceEqDiff, ↓reduceIte, hk]
          rw [b171_48 L (by omega) (by omega) (by omega)]
          simp (disch := first | assumption | exact b01_or _ | (simp (decide := true) only [WB_U, WK_U, WL_U]; assumption) | omega | (simp only [rowU, Nat.reduceEqDiff, ↓reduceIte]; omega)) only [ne_eq, not_true_eq_false, not_false_eq_true, if_true, if_false, ite_true, ite_false, caln_v, caln_r, caln_x, Int.reduceEq, Int.reduceNe, Int.reduceLT, Int.reduceLE, Int.reduceAdd, Int.reduceMul, Int.reduceSub, rowU, Nat.reduceEqDiff, ↓reduceIte, b171_0, b171_8, b171_16, b171_22, b171_23, b171_27, b171_33, b171_38, b171_39, b171_48, b171_57, b171_63, b171_64, b171_68, b171_74, b171_79, b171_80, b171_81, c1, c2, d3, hk, hsh]
    · by_cases c3 : I 95 o = 3
      · have q3 := p3 c3
        have l0 : Lk I o 0 := ⟨by omega, by omega, Or.inr (Or.inr ⟨c3, rfl⟩)⟩
        have a0 := lt 0 l0
        have e2 : ∀ b, Eg I s o b ↔ b = atR I o 0 := fun b => by
          rw [← Eb_n (k := 1) (by omega), Eb_s (k := 0) (k1 := 1) (j := 0) (Int.le_refl _) (by omega) l0 (fun q => absurd q c2) (fun i q1 q2 q3 => by omega)]
          exact ⟨fun q => q.resolve_left (Eb_0 (Int.le_refl _)), Or.inr⟩
        have e3 : (∃ b, b = atR I o 0 ∧ ¬P b) ↔ ¬P (atR I o 0) := ⟨fun ⟨b, q, r⟩ => q ▸ r, fun r => ⟨_, rfl, r⟩⟩
        simp only [e2, e3]
        clear e3
        simp (disch := first | assumption | exact b01_or _ | (simp (decide := true) only [WB_U, WK_U, WL_U]; assumption) | omega | (simp only [rowU, Nat.reduceEqDiff, ↓reduceIte]; omega)) only [ne_eq, not_true_eq_false, not_false_eq_true, if_true, if_false, ite_true, ite_false, caln_v, caln_r, caln_x, Int.reduceEq, Int.reduceNe, Int.reduceLT, Int.reduceLE, Int.reduceAdd, Int.reduceMul, Int.reduceSub, rowU, Nat.reduceEqDiff, ↓reduceIte, b171_0, b171_8, b171_16, b171_22, b171_23, b171_27, b171_33, b171_38, b171_39, b171_48, b171_57, b171_63, b171_64, b171_68, b171_74, b171_79, b171_80, b171_81, c1, c2, c3, r169 L (ht2 _), eat, r170]
      · have e2 : ∀ b, ¬ Eg I s o b := fun b ⟨j, l, _⟩ => by have := l.2.2; omega
        simp only [e2, or_false, false_and, exists_false, b01_f (fun q : False => q)]
        simp (disch := first | assumption | exact b01_or _ | (simp (decide := true) only [WB_U, WK_U, WL_U]; assumption) | omega | (simp only [rowU, Nat.reduceEqDiff, ↓reduceIte]; omega)) only [ne_eq, not_true_eq_false, not_false_eq_true, if_true, if_false, ite_true, ite_false, caln_v, caln_r, caln_x, Int.reduceEq, Int.reduceNe, Int.reduceLT, Int.reduceLE, Int.reduceAdd, Int.reduceMul, Int.reduceSub, rowU, Nat.reduceEqDiff, ↓reduceIte, b171_0, b171_8, b171_16, b171_22, b171_23, b171_27, b171_33, b171_38, b171_39, b171_48, b171_57, b171_63, b171_64, b171_68, b171_74, b171_79, b171_80, b171_81, c1, c2, c3]
theorem zor_0 (p : Prop) : zor (b01 p) 0 = b01 p := by
  by_cases hp : p
  · rw [b01_t hp]; decide
  · rw [b01_f hp]; decide
theorem zor_1 (p : Prop) : zor (b01 p) 1 = 1 := by
  by_cases hp : p
  · rw [b01_t hp]; decide
  · rw [b01_f hp]; decide
theorem zand_0 (p : Prop) : zand (b01 p) 0 = 0 := by
  by_cases hp : p
  · rw [b01_t hp]; decide
  · rw [b01_f hp]; decide
theorem zand_1 (p : Prop) : zand (b01 p) 1 = b01 p := by
  by_cases hp : p
  · rw [b01_t hp]; decide
  · rw [b01_f hp]; decide
/-- how many below n are not in a set -/
noncomputable def cnot (P : Int → Prop) : Nat → Nat
  | 0 => 0
  | n + 1 => cnot P n + @ite Nat (P n) (Classical.propDecidable _) 0 1
theorem cnot_le {P Q : Int → Prop} (h : ∀ j, P j → Q j) : ∀ n : Nat, cnot Q n ≤ cnot P n
  | 0 => Nat.le_refl _
  | n + 1 => by
    have ih := cnot_le h n
    unfold cnot
    by_cases hp : P n
    · rw [if_pos hp, if_pos (h _ hp)]; exact ih
    · rw [if_neg hp]
      by_cases hq : Q n
      · rw [if_pos hq]; omega
      · rw [if_neg hq]; omega
theorem cnot_lt {P Q : Int → Prop} (h : ∀ j, P j → Q j) {b : Int} (hb0 : 0 ≤ b) (hq : Q b) (hp : ¬P b) : ∀ n : Nat, b < n → cnot Q n < cnot P n
  | 0, hb => by omega
  | n + 1, hb => by
    by_cases hbn : b = n
    · have ih := cnot_le h n
      subst hbn
      unfold cnot
      rw [if_pos hq, if_neg hp]
      omega
    · have ih := cnot_lt h hb0 hq hp n (by omega)
      unfold cnot
      by_cases hp : P n
      · rw [if_pos hp, if_pos (h _ hp)]; exact ih
      · rw [if_neg hp]
        by_cases hq : Q n
        · rw [if_pos hq]; omega
        · rw [if_neg hq]; omega
def Z133 (I : Nat → Int → Int) : Prop := ∀ j, j < 0 ∨ 120 ≤ j → I 133 j = 0
theorem Z133_i {I : Nat → Int → Int} {P : Int → Prop} (h : ∀ j, P j → 0 ≤ j ∧ j < 120) : Z133 (rowU I 133 (ind P)) := fun j hj => by
  rw [rowU_eq]
  exact b01_f (fun q => by have := h j q; omega)
theorem r172 {h : HP} {I : Nat → Int → Int} {v1 : MV} (L : LX 11 h 94) (Z : Z133 I) : Go 172 0 [.inr (.inl (some 94)), v1] [] (mI h I) = some (mI h (rowU I 133 (ind (fun _ => False))), .inl none) := by
  rw [b172_0]
  refine Eq.trans ?_ ((lpU (fun k => Go 172 2 [.inr (.inl (some 94)), .inl k] [] (mI h (rowU I 133 (fun j => if j < k then (if 0 ≤ j then 0 else I 133 j) else I 133 j)))) 0 120 (by omega) ?_).trans ?_)
  · have : (fun j : Int => if j < 0 then (if 0 ≤ j then 0 else I 133 j) else I 133 j) = I 133 := by
      funext j
      split
      · rw [if_neg (by omega)]
      · rfl
    rw [this, rowU_id]
  · intro k h0 h1
    have hk : ¬ 120 ≤ k := by omega
    rw [b172_2]
    simp (disch := first | assumption | exact b01_or _ | (simp (decide := true) only [WB_U, WK_U, WL_U]; assumption) | omega | (simp only [rowU, Nat.reduceEqDiff, ↓reduceIte]; omega)) only [ne_eq, not_true_eq_false, not_false_eq_true, if_true, if_false, ite_true, ite_false, caln_v, caln_r, caln_x, Int.reduceEq, Int.reduceNe, Int.reduceLT, Int.reduceLE, Int.reduceAdd, Int.reduceMul, Int.reduceSub, b172_0, b172_5, b172_12, hk]
    rw [zu2_row, rowU_eq, rowU_tw]
    have : up1 (fun j => if j < k then (if 0 ≤ j then 0 else I 133 j) else I 133 j) k 0 = fun j => if j < k + 1 then (if 0 ≤ j then 0 else I 133 j) else I 133 j := by
      funext j
      unfold up1
      by_cases hj : j = k
      · subst hj; rw [if_pos rfl, if_pos (by omega), if_pos h0]
      · rw [if_neg hj]
        dsimp only
        by_cases hl : j < k
        · have h2 : j < k + 1 := by omega
          simp only [hl, h2, if_true]
        · have h2 : ¬ j < k + 1 := by omega
          simp only [hl, h2, if_false]
    rw [this]
  · have : (fun j : Int => if j < 120 then (if 0 ≤ j then 0 else I 133 j) else I 133 j) = ind (fun _ => False) := by
      funext j
      unfold ind
      rw [b01_f (fun q => q)]
      split
      · split
        · rfl
        · exact Z j (by omega)
      · exact Z j (by omega)
    rw [this]
    simp (disch := first | assumption | exact b01_or _ | (simp (decide := true) only [WB_U, WK_U, WL_U]; assumption) | omega | (simp only [rowU, Nat.reduceEqDiff, ↓reduceIte]; omega)) only [ne_eq, not_true_eq_false, not_false_eq_true, if_true, if_false, ite_true, ite_false, caln_v, caln_r, caln_x, Int.reduceEq, Int.reduceNe, Int.reduceLT, Int.reduceLE, Int.reduceAdd, Int.reduceMul, Int.reduceSub, b172_0, b172_2, b172_5, b172_12, Int.le_refl]
/-- sets between what was and what it leads to -/
def Btw (E : Int → Int → Prop) (S P : Int → Prop) : Prop := (∀ j, S j → P j) ∧ ∀ j, P j → Cl E S j
theorem r173 {h : HP} {I : Nat → Int → Int} {S : Int → Prop} {s : Int} {v2 v3 : MV} (L : LX 11 h 94) (W : WB I) (hs : s = 0 ∨ s = 1) (hS : ∀ j, S j → 0 ≤ j ∧ j < I 94 0) :
    Go 173 0 [.inr (.inl (some 94)), .inl s, v2, v3] [] (mI h (rowU I 133 (ind S))) = some (mI h (rowU I 133 (ind (Cl (Eg I s) S))), .inl none) := by
  have ht := WB_t W
  have WU : ∀ Q : Int → Prop, WB (rowU I 133 (ind Q)) := fun Q => by rw [WB_U (by decide)]; exact W
  have hC : ∀ j, Cl (Eg I s) S j → 0 ≤ j ∧ j < I 94 0 := fun j c => Cl_ind c hS (fun a b ha e => by have := Eg_lt W ha e; omega)
  rw [b173_0]
  refine lpW (fun x : (Int → Prop) × MV => Go 173 2 [.inr (.inl (some 94)), .inl s, .inl 1, x.2] [] (mI h (rowU I 133 (ind x.1)))) (fun x => Btw (Eg I s) S x.1) (fun r => r = some (mI h (rowU I 133 (ind (Cl (Eg I s) S))), .inl none)) (fun x => cnot x.1 (I 94 0).toNat) ?_ (S, v3) ⟨fun _ q => q, fun _ q => Cl_base q⟩
  rintro ⟨P0, v⟩ ⟨hP1, hP2⟩
  dsimp only at hP1 hP2 ⊢
  have step1 : Go 173 2 [.inr (.inl (some 94)), .inl s, .inl 1, v] [] (mI h (rowU I 133 (ind P0))) = Go 173 8 [.inr (.inl (some 94)), .inl s, .inl (b01 False), .inl 0] [] (mI h (rowU I 133 (ind P0))) := by
    rw [b01_f (fun q => q)]
    simp (disch := first | assumption | exact b01_or _ | (simp (decide := true) only [WB_U, WK_U, WL_U]; assumption) | omega | (simp only [rowU, Nat.reduceEqDiff, ↓reduceIte]; omega)) only [ne_eq, not_true_eq_false, not_false_eq_true, if_true, if_false, ite_true, ite_false, caln_v, caln_r, caln_x, Int.reduceEq, Int.reduceNe, Int.reduceLT, Int.reduceLE, Int.reduceAdd, Int.reduceMul, Int.reduceSub, b173_2, b173_4]
  have key := lpE (fun k (x : (Int → Prop) × Prop) => Go 173 8 [.inr (.inl (some 94)), .inl s, .inl (b01 x.2), .inl k] [] (mI h (rowU I 133 (ind x.1))))
    (fun k x => (∀ j, P0 j → x.1 j) ∧ (∀ j, x.1 j → Cl (Eg I s) S j) ∧ (x.2 → ∃ b, x.1 b ∧ ¬P0 b) ∧ (¬x.2 → (∀ j, x.1 j → P0 j) ∧ ∀ a, 0 ≤ a → a < k → P0 a → ∀ b, Eg I s a b → P0 b)) 0 (I 94 0) ht.1 ?_ (P0, False) ⟨fun _ q => q, hP2, fun q => q.elim, fun _ => ⟨fun _ q => q, fun a h0 h1 => by omega⟩⟩
  · obtain ⟨⟨P, g⟩, e1, hp1, hp2, hg1, hg0⟩ := key
    dsimp only at e1 hp1 hp2 hg1 hg0
    rw [step1, e1, b173_8 L]
    simp only [ne_eq, not_true_eq_false, not_false_eq_true, if_true, if_false, ite_true, ite_false, caln_v, caln_r, caln_x, Int.reduceEq, Int.reduceNe, Int.reduceLT, Int.reduceLE, Int.reduceAdd, Int.reduceMul, Int.reduceSub, rowU, Nat.reduceEqDiff, ↓reduceIte, Int.le_refl, b173_30]
    by_cases hg : g
    · right
      obtain ⟨b, hb1, hb2⟩ := hg1 hg
      have hbb := hC b (hp2 b hb1)
      refine ⟨(P, .inl (I 94 0)), by rw [b01_t hg], ⟨fun j q => hp1 j (hP1 j q), hp2⟩, ?_⟩
      exact cnot_lt hp1 hbb.1 hb1 hb2 _ (by omega)
    · left
      obtain ⟨hq1, hq2⟩ := hg0 hg
      have : ind P = ind (Cl (Eg I s) S) := ind_c (fun j => ⟨hp2 j, fun c => Cl_ind (P := P) c (fun a q => hp1 a (hP1 a q)) (fun a b ha e => by
        have := hC a (hp2 a ha)
        exact hp1 b (hq2 a this.1 this.2 (hq1 a ha) b e))⟩)
      rw [b01_f hg, this]
      simp only [b173_2, b173_31, if_true]
  · rintro k ⟨P, g⟩ hk0 hk1 ⟨hp1, hp2, hg1, hg0⟩
    dsimp only at hp1 hp2 hg1 hg0 ⊢
    have hk : ¬ I 94 0 ≤ k := by omega
    have h12 : Go 173 8 [.inr (.inl (some 94)), .inl s, .inl (b01 g), .inl k] [] (mI h (rowU I 133 (ind P))) = Go 173 12 [.inr (.inl (some 94)), .inl s, .inl (b01 g), .inl k] [] (mI h (rowU I 133 (ind P))) := by
      rw [b173_8 L]
      simp only [rowU, Nat.reduceEqDiff, ↓reduceIte, hk]
    rw [h12]
    by_cases hpk : P k
    · refine ⟨(fun j => P j ∨ Eg I s k j, g ∨ ∃ b, Eg I s k b ∧ ¬P b), ?_, fun j q => Or.inl (hp1 j q), ?_, ?_, ?_⟩
      · simp (disch := first | assumption | exact b01_or _ | (simp (decide := true) only [WB_U, WK_U, WL_U]; assumption) | omega | (simp only [rowU, Nat.reduceEqDiff, ↓reduceIte]; omega)) only [ne_eq, not_true_eq_false, not_false_eq_true, if_true, if_false, ite_true, ite_false, caln_v, caln_r, caln_x, Int.reduceEq, Int.reduceNe, Int.reduceLT, Int.reduceLE, Int.reduceAdd, Int.reduceMul, Int.reduceSub, rowU, Nat.reduceEqDiff, ↓reduceIte, b173_0, b173_4, b173_12, b173_18, b173_22, b173_23, b173_25, b173_26, b173_30, b173_31, ind, b01_t hpk]
        rw [r171 L W hs ⟨hk0, hk1⟩]
        by_cases hn : ∃ b, Eg I s k b ∧ ¬P b
        · simp (disch := first | assumption | exact b01_or _ | (simp (decide := true) only [WB_U, WK_U, WL_U]; assumption) | omega | (simp only [rowU, Nat.reduceEqDiff, ↓reduceIte]; omega)) only [ne_eq, not_true_eq_false, not_false_eq_true, if_true, if_false, ite_true, ite_false, caln_v, caln_r, caln_x, Int.reduceEq, Int.reduceNe, Int.reduceLT, Int.reduceLE, Int.reduceAdd, Int.reduceMul, Int.reduceSub, rowU, Nat.reduceEqDiff, ↓reduceIte, b173_0, b173_4, b173_12, b173_18, b173_22, b173_23, b173_25, b173_26, b173_30, b173_31, b01_t hn, zor_1, b01_t (p := g ∨ _) (Or.inr hn)]
        · simp (disch := first | assumption | exact b01_or _ | (simp (decide := true) only [WB_U, WK_U, WL_U]; assumption) | omega | (simp only [rowU, Nat.reduceEqDiff, ↓reduceIte]; omega)) only [ne_eq, not_true_eq_false, not_false_eq_true, if_true, if_false, ite_true, ite_false, caln_v, caln_r, caln_x, Int.reduceEq, Int.reduceNe, Int.reduceLT, Int.reduceLE, Int.reduceAdd, Int.reduceMul, Int.reduceSub, rowU, Nat.reduceEqDiff, ↓reduceIte, b173_0, b173_4, b173_12, b173_18, b173_22, b173_23, b173_25, b173_26, b173_30, b173_31, b01_f hn, zor_0]
          rw [b01_c (p := g ∨ _) (q := g) ⟨fun q => q.resolve_right hn, Or.inl⟩]
      · rintro j (q | q)
        · exact hp2 j q
        · exact Cl_step (hp2 k hpk) q
      · rintro (q | ⟨b, q1, q2⟩)
        · obtain ⟨b, q1, q2⟩ := hg1 q
          exact ⟨b, Or.inl q1, q2⟩
        · exact ⟨b, Or.inr q1, fun q => q2 (hp1 b q)⟩
      · intro hn
        obtain ⟨n1, n2⟩ := hg0 (fun q => hn (Or.inl q))
        have n3 : ∀ b, Eg I s k b → P b := fun b e => Classical.byContradiction (fun q => hn (Or.inr ⟨b, e, q⟩))
        refine ⟨fun j q => q.elim (n1 j) (fun e => n1 j (n3 j e)), fun a a0 a1 pa b e => ?_⟩
        by_cases hak : a = k
        · subst hak; exact n1 b (n3 b e)
        · exact n2 a a0 (by omega) pa b e
    · refine ⟨(P, g), ?_, hp1, hp2, hg1, fun hn => ⟨(hg0 hn).1, fun a a0 a1 pa b e => ?_⟩⟩
      · simp (disch := first | assumption | exact b01_or _ | (simp (decide := true) only [WB_U, WK_U, WL_U]; assumption) | omega | (simp only [rowU, Nat.reduceEqDiff, ↓reduceIte]; omega)) only [ne_eq, not_true_eq_false, not_false_eq_true, if_true, if_false, ite_true, ite_false, caln_v, caln_r, caln_x, Int.reduceEq, Int.reduceNe, Int.reduceLT, Int.reduceLE, Int.reduceAdd, Int.reduceMul, Int.reduceSub, rowU, Nat.reduceEqDiff, ↓reduceIte, b173_0, b173_4, b173_12, b173_18, b173_22, b173_23, b173_25, b173_26, b173_30, b173_31, ind, b01_f hpk, zor_0]
      · by_cases hak : a = k
        · subst hak; exact absurd (hp1 _ pa) hpk
        · exact (hg0 hn).2 a a0 (by omega) pa b e
theorem ind_eq {k : Int} : ind (fun j => False ∨ j = k) = ind (fun j => j = k) := ind_c (fun j => by simp)
theorem r174 {h : HP} {I : Nat → Int → Int} {s o : Int} (L : LX 11 h 94) (W : WB I) (Z : Z133 I) (hs : s = 0 ∨ s = 1) (ho : 0 ≤ o ∧ o < I 94 0) :
    Go 174 0 [.inr (.inl (some 94)), .inl s, .inl o] [] (mI h I) = some (mI h (rowU I 133 (ind (Cl (Eg I s) (fun j => j = o)))), .inl none) := by
  have ht := WB_t W
  simp (disch := first | assumption | exact b01_or _ | (simp (decide := true) only [WB_U, WK_U, WL_U]; assumption) | omega | (simp only [rowU, Nat.reduceEqDiff, ↓reduceIte]; omega)) only [ne_eq, not_true_eq_false, not_false_eq_true, if_true, if_false, ite_true, ite_false, caln_v, caln_r, caln_x, Int.reduceEq, Int.reduceNe, Int.reduceLT, Int.reduceLE, Int.reduceAdd, Int.reduceMul, Int.reduceSub, b174_0, r172]
  rw [b174_2 L (by omega), zu2_row, rowU_eq, rowU_tw, up1_ind1, ind_eq, r173 L W hs (fun j q => by omega)]
  simp (disch := first | assumption | exact b01_or _ | (simp (decide := true) only [WB_U, WK_U, WL_U]; assumption) | omega | (simp only [rowU, Nat.reduceEqDiff, ↓reduceIte]; omega)) only [ne_eq, not_true_eq_false, not_false_eq_true, if_true, if_false, ite_true, ite_false, caln_v, caln_r, caln_x, Int.reduceEq, Int.reduceNe, Int.reduceLT, Int.reduceLE, Int.reduceAdd, Int.reduceMul, Int.reduceSub, b174_10]
def WR (I : Nat → Int → Int) : Prop := ∀ k, 0 ≤ k → k < 12 → 0 ≤ I 115 k ∧ I 115 k ≤ I 94 0
/-- what the references of a store name -/
def Rf (I : Nat → Int → Int) (s j : Int) : Prop := ∃ k, 6 * s ≤ k ∧ k < 6 * s + 6 ∧ 0 < I 115 k ∧ j = I 115 k - 1
theorem r175 {h : HP} {I : Nat → Int → Int} {s : Int} {v2 : MV} (L : LX 11 h 94) (W : WB I) (Z : Z133 I) (R : WR I) (hs : s = 0 ∨ s = 1) :
    Go 175 0 [.inr (.inl (some 94)), .inl s, v2] [] (mI h I) = some (mI h (rowU I 133 (ind (Cl (Eg I s) (Rf I s)))), .inl none) := by
  have ht := WB_t W
  simp (disch := first | assumption | exact b01_or _ | (simp (decide := true) only [WB_U, WK_U, WL_U]; assumption) | omega | (simp only [rowU, Nat.reduceEqDiff, ↓reduceIte]; omega)) only [ne_eq, not_true_eq_false, not_false_eq_true, if_true, if_false, ite_true, ite_false, caln_v, caln_r, caln_x, Int.reduceEq, Int.reduceNe, Int.reduceLT, Int.reduceLE, Int.reduceAdd, Int.reduceMul, Int.reduceSub, b175_0, r172, b175_2]
  have key := lpU (fun k => Go 175 6 [.inr (.inl (some 94)), .inl s, .inl k] [] (mI h (rowU I 133 (ind (fun j => ∃ i, 6 * s ≤ i ∧ i < k ∧ 0 < I 115 i ∧ j = I 115 i - 1))))) (6 * s) (6 * s + 6) (by omega) ?_
  · have e0 : ind (fun j => ∃ i, 6 * s ≤ i ∧ i < 6 * s ∧ 0 < I 115 i ∧ j = I 115 i - 1) = ind (fun _ => False) := ind_c (fun j => ⟨fun ⟨i, a, b, _⟩ => by omega, False.elim⟩)
    rw [e0] at key
    rw [key, b175_6 (by omega) (by omega)]
    simp (disch := first | assumption | exact b01_or _ | (simp (decide := true) only [WB_U, WK_U, WL_U]; assumption) | omega | (simp only [rowU, Nat.reduceEqDiff, ↓reduceIte]; omega)) only [ne_eq, not_true_eq_false, not_false_eq_true, if_true, if_false, ite_true, ite_false, caln_v, caln_r, caln_x, Int.reduceEq, Int.reduceNe, Int.reduceLT, Int.reduceLE, Int.reduceAdd, Int.reduceMul, Int.reduceSub, Int.le_refl, b175_30]
    rw [show (fun j => ∃ i, 6 * s ≤ i ∧ i < 6 * s + 6 ∧ 0 < I 115 i ∧ j = I 115 i - 1) = Rf I s from rfl, r173 L W hs (S := Rf I s) (fun j ⟨k, a, b, c, d⟩ => by have := R k (by omega) (by omega); omega)]
    simp (disch := first | assumption | exact b01_or _ | (simp (decide := true) only [WB_U, WK_U, WL_U]; assumption) | omega | (simp only [rowU, Nat.reduceEqDiff, ↓reduceIte]; omega)) only [ne_eq, not_true_eq_false, not_false_eq_true, if_true, if_false, ite_true, ite_false, caln_v, caln_r, caln_x, Int.reduceEq, Int.reduceNe, Int.reduceLT, Int.reduceLE, Int.reduceAdd, Int.reduceMul, Int.reduceSub, b175_33]
  · intro k h0 h1
    have hk : ¬ 6 * s + 6 ≤ k := by omega
    have hr := R k (by omega) (by omega)
    rw [b175_6 (by omega) (by omega)]
    by_cases hc : I 115 k ≤ 0
    · simp (disch := first | assumption | exact b01_or _ | (simp (decide := true) only [WB_U, WK_U, WL_U]; assumption) | omega | (simp only [rowU, Nat.reduceEqDiff, ↓reduceIte]; omega)) only [ne_eq, not_true_eq_false, not_false_eq_true, if_true, if_false, ite_true, ite_false, caln_v, caln_r, caln_x, Int.reduceEq, Int.reduceNe, Int.reduceLT, Int.reduceLE, Int.reduceAdd, Int.reduceMul, Int.reduceSub, rowU, Nat.reduceEqDiff, ↓reduceIte, b175_0, b175_2, b175_13, b175_18, b175_28, b175_30, b175_33, hk, hc]
      rw [ind_c (Q := fun j => ∃ i, 6 * s ≤ i ∧ i < k + 1 ∧ 0 < I 115 i ∧ j = I 115 i - 1)]
      intro j
      constructor
      · rintro ⟨i, a, b, c⟩; exact ⟨i, a, by omega, c⟩
      · rintro ⟨i, a, b, c⟩
        by_cases hi : i = k
        · subst hi; omega
        · exact ⟨i, a, by omega, c⟩
    · simp only [hk, if_false]
      rw [b175_13 L (by omega)]
      simp (disch := first | assumption | exact b01_or _ | (simp (decide := true) only [WB_U, WK_U, WL_U]; assumption) | omega | (simp only [rowU, Nat.reduceEqDiff, ↓reduceIte]; omega)) only [ne_eq, not_true_eq_false, not_false_eq_true, if_true, if_false, ite_true, ite_false, caln_v, caln_r, caln_x, Int.reduceEq, Int.reduceNe, Int.reduceLT, Int.reduceLE, Int.reduceAdd, Int.reduceMul, Int.reduceSub, rowU, Nat.reduceEqDiff, ↓reduceIte, hc]
      rw [b175_18 L (by omega) (by simp only [rowU, Nat.reduceEqDiff, ↓reduceIte]; omega) (by simp only [rowU, Nat.reduceEqDiff, ↓reduceIte]; omega)]
      simp (disch := first | assumption | exact b01_or _ | (simp (decide := true) only [WB_U, WK_U, WL_U]; assumption) | omega | (simp only [rowU, Nat.reduceEqDiff, ↓reduceIte]; omega)) only [ne_eq, not_true_eq_false, not_false_eq_true, if_true, if_false, ite_true, ite_false, caln_v, caln_r, caln_x, Int.reduceEq, Int.reduceNe, Int.reduceLT, Int.reduceLE, Int.reduceAdd, Int.reduceMul, Int.reduceSub, rowU, Nat.reduceEqDiff, ↓reduceIte, b175_28]
      rw [zu2_row]
      simp only [rowU, Nat.reduceEqDiff, ↓reduceIte]
      rw [show (rowU (rowU I 133 (ind fun j => ∃ i, 6 * s ≤ i ∧ i < k ∧ 0 < I 115 i ∧ j = I 115 i - 1)) 133 (up1 (ind fun j => ∃ i, 6 * s ≤ i ∧ i < k ∧ 0 < I 115 i ∧ j = I 115 i - 1) (I 115 k - 1) 1)) = rowU I 133 (ind (fun j => ∃ i, 6 * s ≤ i ∧ i < k + 1 ∧ 0 < I 115 i ∧ j = I 115 i - 1)) from ?_]
      rw [rowU_tw, up1_ind1, ind_c]
      intro j
      constructor
      · rintro (⟨i, a, b, c⟩ | q)
        · exact ⟨i, a, by omega, c⟩
        · exact ⟨k, h0, by omega, by omega, q⟩
      · rintro ⟨i, a, b, c⟩
        by_cases hi : i = k
        · subst hi; exact Or.inr c.2
        · exact Or.inl ⟨i, a, by omega, c⟩
