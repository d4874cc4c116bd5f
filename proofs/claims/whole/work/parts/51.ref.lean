/-! ===== the reference's methods (2): what is reached ===== -/
def Lk (I : Nat → Int → Int) (o j : Int) : Prop := 0 ≤ j ∧ j < I 96 o ∧ ((I 95 o = 1 ∧ j % 2 = 1) ∨ (I 95 o = 2 ∧ j ≠ 1) ∨ (I 95 o = 3 ∧ j = 0))
def WB (I : Nat → Int → Int) : Prop := (0 ≤ I 94 0 ∧ I 94 0 ≤ 100) ∧ ∀ o, 0 ≤ o → o < I 94 0 → (0 ≤ I 95 o ∧ I 95 o ≤ 3 ∧ 0 ≤ I 96 o ∧ I 96 o ≤ 12 ∧ (I 95 o = 1 → I 96 o % 2 = 0) ∧ (I 95 o = 2 → 2 ≤ I 96 o ∧ I 96 o ≤ 4) ∧ (I 95 o = 3 → I 96 o = 1)) ∧ ∀ j, Lk I o j → 0 ≤ atR I o j ∧ atR I o j < o
def Eg (I : Nat → Int → Int) (s a b : Int) : Prop := ∃ j, Lk I a j ∧ (I 95 a = 2 → 2 ≤ j → I 116 (120 * s + a) = 0) ∧ b = atR I a j
theorem atR_U {I : Nat → Int → Int} {a : Nat} {f : Int → Int} (ha : 99 ≤ a) : atR (rowU I a f) = atR I := by
  funext o j
  unfold atR fnd
  rw [rowU_ne (by omega), rowU_ne (by omega), rowU_ne (by omega)]
theorem Lk_U {I : Nat → Int → Int} {a : Nat} {f : Int → Int} (ha : 99 ≤ a) : Lk (rowU I a f) = Lk I := by
  funext o j
  unfold Lk
  rw [rowU_ne (by omega), rowU_ne (by omega)]
theorem WB_U {I : Nat → Int → Int} {a : Nat} {f : Int → Int} (ha : 99 ≤ a) : WB (rowU I a f) = WB I := by
  unfold WB
  rw [atR_U ha, Lk_U ha, rowU_ne (by omega), rowU_ne (by omega), rowU_ne (by omega)]
theorem Eg_U {I : Nat → Int → Int} {a : Nat} {f : Int → Int} (ha : 99 ≤ a) (h2 : a ≠ 116) : Eg (rowU I a f) = Eg I := by
  funext s o j
  unfold Eg
  rw [atR_U ha, Lk_U ha, rowU_ne (by omega), rowU_ne (fun q => h2 q.symm)]
theorem WB_t {I : Nat → Int → Int} (W : WB I) : 0 ≤ I 94 0 ∧ I 94 0 ≤ 120 := ⟨W.1.1, by have := W.1.2; omega⟩
theorem Eg_lt {I : Nat → Int → Int} (W : WB I) {s a b : Int} (ha : 0 ≤ a ∧ a < I 94 0) (e : Eg I s a b) : 0 ≤ b ∧ b < a := by
  obtain ⟨j, l, -, rfl⟩ := e
  exact (W.2 a ha.1 ha.2).2 j l
/-- places below k whose link counts -/
def Eb (I : Nat → Int → Int) (s a k b : Int) : Prop := ∃ j, j < k ∧ Lk I a j ∧ (I 95 a = 2 → 2 ≤ j → I 116 (120 * s + a) = 0) ∧ b = atR I a j
theorem Eb_0 {I : Nat → Int → Int} {s a k b : Int} (h : k ≤ 0) : ¬ Eb I s a k b := fun ⟨j, h1, l, _⟩ => by have := l.1; omega
theorem Eb_n {I : Nat → Int → Int} {s a k b : Int} (h : I 96 a ≤ k) : Eb I s a k b ↔ Eg I s a b := by
  constructor
  · rintro ⟨j, -, l⟩; exact ⟨j, l⟩
  · rintro ⟨j, l⟩; exact ⟨j, by have := l.1.2.1; omega, l⟩
theorem Eb_s {I : Nat → Int → Int} {s a k k1 j : Int} (hk : k ≤ j) (hj : j < k1) (l : Lk I a j) (hsh : I 95 a = 2 → 2 ≤ j → I 116 (120 * s + a) = 0) (hu : ∀ i, k ≤ i → i < k1 → Lk I a i → i = j) (b : Int) : Eb I s a k1 b ↔ Eb I s a k b ∨ b = atR I a j := by
  constructor
  · rintro ⟨i, h1, h2, h3, h4⟩
    by_cases hi : i < k
    · exact Or.inl ⟨i, hi, h2, h3, h4⟩
    · have := hu i (by omega) h1 h2
      subst this
      exact Or.inr h4
  · rintro (⟨i, h1, h2, h3, h4⟩ | hb)
    · exact ⟨i, by omega, h2, h3, h4⟩
    · exact ⟨j, hj, l, hsh, hb⟩
theorem Eb_g {I : Nat → Int → Int} {s a k : Int} (hu : ∀ i, k ≤ i → Lk I a i → I 95 a = 2 ∧ 2 ≤ i ∧ I 116 (120 * s + a) ≠ 0) (b : Int) : Eg I s a b ↔ Eb I s a k b := by
  constructor
  · rintro ⟨i, h2, h3, h4⟩
    by_cases hi : i < k
    · exact ⟨i, hi, h2, h3, h4⟩
    · obtain ⟨q1, q2, q3⟩ := hu i (by omega) h2
      exact absurd (h3 q1 q2) q3
  · rintro ⟨i, -, h2, h3, h4⟩
    exact ⟨i, h2, h3, h4⟩
theorem r171 {h : HP} {I : Nat → Int → Int} {P : Int → Prop} {s o : Int} {v3 v4 : MV} (L : LX 11 h 94) (W : WB I) (hs : s = 0 ∨ s = 1) (ho : 0 ≤ o ∧ o < I 94 0) :
    Go 171 0 [.inr (.inl (some 94)), .inl s, .inl o, v3, v4] [] (mI h (rowU I 133 (ind P))) = some (mI h (rowU I 133 (ind (fun j => P j ∨ Eg I s o j))), .inl (some (.inl (b01 (∃ b, Eg I s o b ∧ ¬P b))))) := by
  have ht := WB_t W
  have ht1 := W.1
  obtain ⟨⟨k0, k3, s0, s12, p1, p2, p3⟩, lt⟩ := W.2 o ho.1 ho.2
  have ht2 : ∀ Q : Int → Prop, 0 ≤ rowU I 133 (ind Q) 94 0 ∧ rowU I 133 (ind Q) 94 0 ≤ 120 := fun Q => by rw [rowU_ne (by decide)]; exact ht
  have eat : ∀ (Q : Int → Prop) (a j : Int), atR (rowU I 133 (ind Q)) a j = atR I a j := fun Q a j => by rw [atR_U (by decide)]
  by_cases c1 : I 95 o = 1
  · have d2 : ¬ I 95 o = 2 := by omega
    have d3 : ¬ I 95 o = 3 := by omega
    have key := lpU (fun i => Go 171 10 [.inr (.inl (some 94)), .inl s, .inl o, .inl (b01 (∃ b, Eb I s o (1 + 2 * i) b ∧ ¬P b)), .inl (1 + 2 * i)] [] (mI h (rowU I 133 (ind (fun j => P j ∨ Eb I s o (1 + 2 * i) j))))) 0 (I 96 o / 2) (by omega) ?_
    · have e0 : ∀ b, ¬ Eb I s o (1 + 2 * 0) b := fun b ⟨j, h1, l, _⟩ => by have := l.1; have := l.2.2; omega
      have e1 : ∀ b, Eb I s o (1 + 2 * (I 96 o / 2)) b ↔ Eg I s o b := fun b => Eb_n (by have := p1 c1; omega)
      simp only [e0, e1, or_false, false_and, exists_false, b01_f (fun q : False => q)] at key
      simp (disch := first | assumption | exact b01_or _ | omega | (simp only [rowU, Nat.reduceEqDiff, ↓reduceIte]; omega)) only [ne_eq, not_true_eq_false, not_false_eq_true, if_true, if_false, ite_true, ite_false, caln_v, caln_r, caln_x, Int.reduceEq, Int.reduceNe, Int.reduceLT, Int.reduceLE, Int.reduceAdd, Int.reduceMul, Int.reduceSub, rowU, Nat.reduceEqDiff, ↓reduceIte, b171_0, b171_8, b171_16, b171_22, b171_23, b171_27, b171_33, b171_38, b171_39, b171_48, b171_57, b171_63, b171_64, b171_68, b171_74, b171_79, b171_80, b171_81, c1]
      refine Eq.trans ?_ (key.trans ?_)
      · rfl
      · have hk : I 96 o ≤ 1 + 2 * (I 96 o / 2) := by omega
        rw [b171_10 L (by omega)]
        simp (disch := first | assumption | exact b01_or _ | omega | (simp only [rowU, Nat.reduceEqDiff, ↓reduceIte]; omega)) only [ne_eq, not_true_eq_false, not_false_eq_true, if_true, if_false, ite_true, ite_false, caln_v, caln_r, caln_x, Int.reduceEq, Int.reduceNe, Int.reduceLT, Int.reduceLE, Int.reduceAdd, Int.reduceMul, Int.reduceSub, rowU, Nat.reduceEqDiff, ↓reduceIte, b171_0, b171_8, b171_16, b171_22, b171_23, b171_27, b171_33, b171_38, b171_39, b171_48, b171_57, b171_63, b171_64, b171_68, b171_74, b171_79, b171_80, b171_81, c1, d2, d3, hk, b01_or]
    · intro i hi0 hi1
      have hk : ¬ I 96 o ≤ 1 + 2 * i := by omega
      have hl : Lk I o (1 + 2 * i) := ⟨by omega, by omega, Or.inl ⟨c1, by omega⟩⟩
      have hst : ∀ b, Eb I s o (1 + 2 * (i + 1)) b ↔ Eb I s o (1 + 2 * i) b ∨ b = atR I o (1 + 2 * i) :=
        Eb_s (Int.le_refl _) (by omega) hl (fun q => absurd q d2) (fun i1 q1 q2 q3 => by have := q3.2.2; omega)
      have hlt := lt _ hl
      rw [b171_10 L (by omega)]
      simp (disch := first | assumption | exact b01_or _ | omega | (simp only [rowU, Nat.reduceEqDiff, ↓reduceIte]; omega)) only [ne_eq, not_true_eq_false, not_false_eq_true, if_true, if_false, ite_true, ite_false, caln_v, caln_r, caln_x, Int.reduceEq, Int.reduceNe, Int.reduceLT, Int.reduceLE, Int.reduceAdd, Int.reduceMul, Int.reduceSub, rowU, Nat.reduceEqDiff, ↓reduceIte, b171_0, b171_8, b171_16, b171_22, b171_23, b171_27, b171_33, b171_38, b171_39, b171_48, b171_57, b171_63, b171_64, b171_68, b171_74, b171_79, b171_80, b171_81, hk, r169 L (ht2 _), eat, r170, zor_b]
      rw [ind_st1 hst, ind_st2 hst]
      rw [show 1 + 2 * (i + 1) = 1 + 2 * i + 2 by omega]
  · by_cases c2 : I 95 o = 2
    · have d3 : ¬ I 95 o = 3 := by omega
      have q2 := p2 c2
      have l0 : Lk I o 0 := ⟨by omega, by omega, Or.inr (Or.inl ⟨c2, by omega⟩)⟩
      have a0 := lt 0 l0
      have e1 : ∀ b, Eb I s o 2 b ↔ b = atR I o 0 := fun b => by
        rw [Eb_s (k := 0) (k1 := 2) (j := 0) (Int.le_refl _) (by omega) l0 (fun _ q => by omega) (fun i q1 q2 q3 => by have := q3.2.2; omega)]
        exact ⟨fun q => q.resolve_left (Eb_0 (Int.le_refl _)), Or.inr⟩
      simp (disch := first | assumption | exact b01_or _ | omega | (simp only [rowU, Nat.reduceEqDiff, ↓reduceIte]; omega)) only [ne_eq, not_true_eq_false, not_false_eq_true, if_true, if_false, ite_true, ite_false, caln_v, caln_r, caln_x, Int.reduceEq, Int.reduceNe, Int.reduceLT, Int.reduceLE, Int.reduceAdd, Int.reduceMul, Int.reduceSub, rowU, Nat.reduceEqDiff, ↓reduceIte, b171_0, b171_8, b171_16, b171_22, b171_23, b171_27, b171_33, b171_38, b171_39, b171_48, b171_57, b171_63, b171_64, b171_68, b171_74, b171_79, b171_80, b171_81, c1, c2, r169 L (ht2 _), eat, r170]
      by_cases hsh : I 116 (120 * s + o) = 0
      · have key := lpU (fun k => Go 171 42 [.inr (.inl (some 94)), .inl s, .inl o, .inl (b01 (∃ b, Eb I s o k b ∧ ¬P b)), .inl k] [] (mI h (rowU I 133 (ind (fun j => P j ∨ Eb I s o k j))))) 2 (I 96 o) (by omega) ?_
        · have e2 : ∀ b, Eb I s o (I 96 o) b ↔ Eg I s o b := fun b => Eb_n (Int.le_refl _)
          have e3 : (∃ b, b = atR I o 0 ∧ ¬P b) ↔ ¬P (atR I o 0) := ⟨fun ⟨b, q, r⟩ => q ▸ r, fun r => ⟨_, rfl, r⟩⟩
          simp only [e1, e2, e3] at key
          clear e3
          refine key.trans ?_
          rw [b171_42 L (by omega)]
          simp (disch := first | assumption | exact b01_or _ | omega | (simp only [rowU, Nat.reduceEqDiff, ↓reduceIte]; omega)) only [ne_eq, not_true_eq_false, not_false_eq_true, if_true, if_false, ite_true, ite_false, caln_v, caln_r, caln_x, Int.reduceEq, Int.reduceNe, Int.reduceLT, Int.reduceLE, Int.reduceAdd, Int.reduceMul, Int.reduceSub, rowU, Nat.reduceEqDiff, ↓reduceIte, b171_0, b171_8, b171_16, b171_22, b171_23, b171_27, b171_33, b171_38, b171_39, b171_48, b171_57, b171_63, b171_64, b171_68, b171_74, b171_79, b171_80, b171_81, c1, c2, d3, Int.le_refl]
        · intro k hk0 hk1
          have hk : ¬ I 96 o ≤ k := by omega
          have hl : Lk I o k := ⟨by omega, by omega, Or.inr (Or.inl ⟨c2, by omega⟩)⟩
          have hst : ∀ b, Eb I s o (k + 1) b ↔ Eb I s o k b ∨ b = atR I o k :=
            Eb_s (Int.le_refl _) (by omega) hl (fun _ _ => hsh) (fun i1 q1 q2 q3 => by omega)
          have hlt := lt _ hl
          rw [b171_42 L (by omega)]
          simp (disch := first | assumption | exact b01_or _ | omega | (simp only [rowU, Nat.reduceEqDiff, ↓reduceIte]; omega)) only [ne_eq, not_true_eq_false, not_false_eq_true, if_true, if_false, ite_true, ite_false, caln_v, caln_r, caln_x, Int.reduceEq, Int.reduceNe, Int.reduceLT, Int.reduceLE, Int.reduceAdd, Int.reduceMul, Int.reduceSub, rowU, Nat.reduceEqDiff, ↓reduceIte, b171_0, b171_8, b171_16, b171_22, b171_23, b171_27, b171_33, b171_38, b171_39, b171_48, b171_57, b171_63, b171_64, b171_68, b171_74, b171_79, b171_80, b171_81, hk, hsh, r169 L (ht2 _), eat, r170, zor_b]
          rw [ind_st1 hst, ind_st2 hst]
      · have e2 : ∀ b, Eg I s o b ↔ b = atR I o 0 := fun b => by
          rw [← e1]
          exact Eb_g (fun i q1 q2 => ⟨c2, q1, hsh⟩) b
        have e3 : (∃ b, b = atR I o 0 ∧ ¬P b) ↔ ¬P (atR I o 0) := ⟨fun ⟨b, q, r⟩ => q ▸ r, fun r => ⟨_, rfl, r⟩⟩
        simp only [e2, e3]
        clear e3
        rw [b171_42 L (by omega)]
        by_cases hk : I 96 o ≤ 2
        · simp (disch := first | assumption | exact b01_or _ | omega | (simp only [rowU, Nat.reduceEqDiff, ↓reduceIte]; omega)) only [ne_eq, not_true_eq_false, not_false_eq_true, if_true, if_false, ite_true, ite_false, caln_v, caln_r, caln_x, Int.reduceEq, Int.reduceNe, Int.reduceLT, Int.reduceLE, Int.reduceAdd, Int.reduceMul, Int.reduceSub, rowU, Nat.reduceEqDiff, ↓reduceIte, b171_0, b171_8, b171_16, b171_22, b171_23, b171_27, b171_33, b171_38, b171_39, b171_48, b171_57, b171_63, b171_64, b171_68, b171_74, b171_79, b171_80, b171_81, c1, c2, d3, hk]
        · simp (disch := first | assumption | exact b01_or _ | omega | (simp only [rowU, Nat.reduceEqDiff, ↓reduceIte]; omega)) only [ne_eq, not_true_eq_false, not_false_eq_true, if_true, if_false, ite_true, ite_false, caln_v, caln_r, caln_x, Int.reduceEq, Int.reduceNe, Int.reduceLT, Int.reduceLE, Int.reduceAdd, Int.reduceMul, Int.reduceSub, rowU, Nat.reduceEqDiff, ↓reduceIte, hk]
          rw [b171_48 L (by omega) (by omega) (by omega)]
          simp (disch := first | assumption | exact b01_or _ | omega | (simp only [rowU, Nat.reduceEqDiff, ↓reduceIte]; omega)) only [ne_eq, not_true_eq_false, not_false_eq_true, if_true, if_false, ite_true, ite_false, caln_v, caln_r, caln_x, Int.reduceEq, Int.reduceNe, Int.reduceLT, Int.reduceLE, Int.reduceAdd, Int.reduceMul, Int.reduceSub, rowU, Nat.reduceEqDiff, ↓reduceIte, b171_0, b171_8, b171_16, b171_22, b171_23, b171_27, b171_33, b171_38, b171_39, b171_48, b171_57, b171_63, b171_64, b171_68, b171_74, b171_79, b171_80, b171_81, c1, c2, d3, hk, hsh]
    · by_cases c3 : I 95 o = 3
      · have q3 := p3 c3
        have l0 : Lk I o 0 := ⟨by omega, by omega, Or.inr (Or.inr ⟨c3, rfl⟩)⟩
        have a0 := lt 0 l0
        have e2 : ∀ b, Eg I s o b ↔ b = atR I o 0 := fun b => by
          rw [← Eb_n (k := 1) (by omega), Eb_s (k := 0) (k1 := 1) (j := 0) (Int.le_refl _) (by omega) l0 (fun q => absurd q c2) (fun i q1 q2 q3 => by omega)]
          exact ⟨fun q => q.resolve_left (Eb_0 (Int.le_refl _)), Or.inr⟩
        have e3 : (∃ b, b = atR I o 0 ∧ ¬P b) ↔ ¬P (atR I o 0) := ⟨fun ⟨b, q, r⟩ => q ▸ r, fun r => ⟨_, rfl, r⟩⟩
        simp only [e2, e3]
        clear e3
        simp (disch := first | assumption | exact b01_or _ | omega | (simp only [rowU, Nat.reduceEqDiff, ↓reduceIte]; omega)) only [ne_eq, not_true_eq_false, not_false_eq_true, if_true, if_false, ite_true, ite_false, caln_v, caln_r, caln_x, Int.reduceEq, Int.reduceNe, Int.reduceLT, Int.reduceLE, Int.reduceAdd, Int.reduceMul, Int.reduceSub, rowU, Nat.reduceEqDiff, ↓reduceIte, b171_0, b171_8, b171_16, b171_22, b171_23, b171_27, b171_33, b171_38, b171_39, b171_48, b171_57, b171_63, b171_64, b171_68, b171_74, b171_79, b171_80, b171_81, c1, c2, c3, r169 L (ht2 _), eat, r170]
      · have e2 : ∀ b, ¬ Eg I s o b := fun b ⟨j, l, _⟩ => by have := l.2.2; omega
        simp only [e2, or_false, false_and, exists_false, b01_f (fun q : False => q)]
        simp (disch := first | assumption | exact b01_or _ | omega | (simp only [rowU, Nat.reduceEqDiff, ↓reduceIte]; omega)) only [ne_eq, not_true_eq_false, not_false_eq_true, if_true, if_false, ite_true, ite_false, caln_v, caln_r, caln_x, Int.reduceEq, Int.reduceNe, Int.reduceLT, Int.reduceLE, Int.reduceAdd, Int.reduceMul, Int.reduceSub, rowU, Nat.reduceEqDiff, ↓reduceIte, b171_0, b171_8, b171_16, b171_22, b171_23, b171_27, b171_33, b171_38, b171_39, b171_48, b171_57, b171_63, b171_64, b171_68, b171_74, b171_79, b171_80, b171_81, c1, c2, c3]
