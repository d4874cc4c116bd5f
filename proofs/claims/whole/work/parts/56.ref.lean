/-! ===== the reference's methods (7): content, folder ===== -/
theorem WB_e {I J : Nat → Int → Int} (h0 : J 94 0 = I 94 0) (h5 : J 95 = I 95) (h6 : J 96 = I 96) (h7 : J 97 = I 97) (h8 : J 98 = I 98) : WB J = WB I := by
  unfold WB Lk atR fnd
  rw [h0, h5, h6, h7, h8]
theorem WK_e {I J : Nat → Int → Int} (h0 : J 94 0 = I 94 0) (h8 : J 108 = I 108) (h11 : J 111 = I 111) (h12 : J 112 = I 112) (h13 : J 113 = I 113) : WK J = WK I := by
  unfold WK
  rw [h0, h8, h11, h12, h13]
theorem tH_n {I : Nat → Int → Int} {x : Int} {a : Nat} (h : a ≠ 94) : tH I x a = I a := rowU_ne h
theorem tH_tH {I : Nat → Int → Int} {x y : Int} : tH (tH I x) y = tH I y := by
  unfold tH
  rw [rowU_tw, rowU_eq]
  congr 1
  funext j
  unfold up1
  split <;> rfl
theorem tH_49 {I : Nat → Int → Int} {x : Int} : tH I x 94 49 = x := by
  unfold tH
  rw [rowU_eq, up1_eq]
theorem zu2_tH {I : Nat → Int → Int} {x y : Int} : zu2 (tH I x) 94 49 y = tH I y := by
  rw [zu2_row]
  exact tH_tH
theorem zu2_tI {I : Nat → Int → Int} {y : Int} : zu2 I 94 49 y = tH I y := zu2_row _ _ _ _
/-- what telling needs of the memory -/
def WT (I : Nat → Int → Int) : Prop := WB I ∧ WL I ∧ WN I ∧ WK I ∧ (∀ j, I 109 j = 0 ∨ I 109 j = 1) ∧ (∀ s, s = 0 ∨ s = 1 → 0 ≤ I 104 s ∧ I 104 s ≤ 30) ∧ (∀ j, 0 ≤ I 97 j ∧ I 97 j ≤ 9999)
def WD (I : Nat → Int → Int) : Prop := (0 ≤ I 94 5 ∧ I 94 5 ≤ 12) ∧ ∀ j, 0 ≤ j → j < I 94 5 → 0 ≤ I 99 j ∧ I 99 j ≤ 9999
theorem WT_tH {I : Nat → Int → Int} {x : Int} : WT (tH I x) = WT I := by
  have e : ∀ a, a ≠ 94 → tH I x a = I a := fun a => tH_n
  have e0 : tH I x 94 0 = I 94 0 := tH_94 (by decide)
  unfold WT
  rw [WB_e e0 (e 95 (by decide)) (e 96 (by decide)) (e 97 (by decide)) (e 98 (by decide)), WK_e e0 (e 108 (by decide)) (e 111 (by decide)) (e 112 (by decide)) (e 113 (by decide))]
  rfl
theorem WD_tH {I : Nat → Int → Int} {x : Int} : WD (tH I x) = WD I := by
  unfold WD
  rw [tH_94 (by decide)]
  rfl
noncomputable def tR (h : HP) (I : Nat → Int → Int) (s c : Int) : Option (HP × OUT) :=
  if sm I c < 0 ∧ I 94 0 = 100 then some (mI h (tH I 3), .inl (some (.inl 0))) else some (mI h (tW I s c), .inl (some (.inl (tJ I c 98 (tO I c)))))
theorem r192' {h : HP} {I : Nat → Int → Int} {s c : Int} {v3 v4 v5 v6 : MV} (L : LX 11 h 94) (W : WT I) (D : WD I) (hs : s = 0 ∨ s = 1) (hc : 0 ≤ c ∧ c ≤ 3) : Go 192 0 [.inr (.inl (some 94)), .inl s, .inl c, v3, v4, v5, v6] [] (mI h I) = tR h I s c :=
  r192 L W.1 W.2.1 W.2.2.1 W.2.2.2.1 W.2.2.2.2.1 hs (W.2.2.2.2.2.1 s hs) D.1 hc W.2.2.2.2.2.2 D.2
theorem tR_s {h : HP} {I : Nat → Int → Int} {s c : Int} : ∃ J x, tR h I s c = some (mI h J, .inl (some (.inl x))) := by
  unfold tR
  split
  · exact ⟨_, _, rfl⟩
  · exact ⟨_, _, rfl⟩
theorem r194 {h : HP} {I : Nat → Int → Int} {s : Int} {v2 : MV} (L : LX 11 h 94) (W : WT I) (D : WD I) :
    Go 194 0 [.inr (.inl (some 94)), .inl s, v2] [] (mI h I) = if s = 0 ∨ s = 1 then (@ite _ (∃ k, 0 ≤ k ∧ k < I 94 5 ∧ 99 < I 99 k) (Classical.propDecidable _) (some (mI h (tH I 2), .inl (some (.inl 0)))) (tR h (tH I 0) s 0)) else some (mI h (tH I 1), .inl (some (.inl 0))) := by
  have e5 : ∀ t, tH I t 94 5 = I 94 5 := fun t => tH_94 (by decide)
  have n9 : ∀ t, tH I t 99 = I 99 := fun t => tH_n (by decide)
  have hd := D.1
  by_cases hs : s = 0 ∨ s = 1
  · rw [if_pos hs]
    have h10 : Go 194 0 [.inr (.inl (some 94)), .inl s, v2] [] (mI h I) = Go 194 10 [.inr (.inl (some 94)), .inl s, .inl 0] [] (mI h (tH I 0)) := by
      simp (disch := first | assumption | exact b01_or _ | (simp (decide := true) only [WB_U, WK_U, WL_U]; assumption) | omega | (simp only [rowU, Nat.reduceEqDiff, ↓reduceIte]; omega)) only [ne_eq, not_true_eq_false, not_false_eq_true, if_true, if_false, ite_true, ite_false, caln_v, caln_r, caln_x, Int.reduceEq, Int.reduceNe, Int.reduceLT, Int.reduceLE, Int.reduceAdd, Int.reduceMul, Int.reduceSub, b194_0, r164, b194_3, b01_t hs, b194_4, b194_7, zu2_tI]
    rw [h10]
    refine lpQ (fun k (_ : Unit) => Go 194 10 [.inr (.inl (some 94)), .inl s, .inl k] [] (mI h (tH I 0))) (fun k _ => ∀ i, 0 ≤ i → i < k → I 99 i ≤ 99) (fun r => r = @ite _ (∃ k, 0 ≤ k ∧ k < I 94 5 ∧ 99 < I 99 k) (Classical.propDecidable _) (some (mI h (tH I 2), .inl (some (.inl 0)))) (tR h (tH I 0) s 0)) 0 (I 94 5) hd.1 ?_ ?_ () (fun i a b => by omega)
    · intro k _ k0 k1 hk
      have hk1 : ¬ I 94 5 ≤ k := by omega
      by_cases hc : I 99 k ≤ 99
      · right
        refine ⟨(), ?_, fun i a b => ?_⟩
        · rw [b194_10 L]
          simp (disch := first | assumption | exact b01_or _ | (simp (decide := true) only [WB_U, WK_U, WL_U]; assumption) | omega | (simp only [rowU, Nat.reduceEqDiff, ↓reduceIte]; omega)) only [ne_eq, not_true_eq_false, not_false_eq_true, if_true, if_false, ite_true, ite_false, caln_v, caln_r, caln_x, Int.reduceEq, Int.reduceNe, Int.reduceLT, Int.reduceLE, Int.reduceAdd, Int.reduceMul, Int.reduceSub, e5, hk1, b194_14, tH_49, b194_17, n9, hc, b194_26, b194_27, zu2_tH]
        · by_cases hi : i = k
          · subst hi; exact hc
          · exact hk i a (by omega)
      · left
        rw [if_pos ⟨k, k0, k1, by omega⟩, b194_10 L]
        simp (disch := first | assumption | exact b01_or _ | (simp (decide := true) only [WB_U, WK_U, WL_U]; assumption) | omega | (simp only [rowU, Nat.reduceEqDiff, ↓reduceIte]; omega)) only [ne_eq, not_true_eq_false, not_false_eq_true, if_true, if_false, ite_true, ite_false, caln_v, caln_r, caln_x, Int.reduceEq, Int.reduceNe, Int.reduceLT, Int.reduceLE, Int.reduceAdd, Int.reduceMul, Int.reduceSub, e5, hk1, b194_14, tH_49, b194_17, n9, hc, b194_24, b194_27, zu2_tH]
        rw [b194_10 L]
        by_cases hl : I 94 5 ≤ k + 1
        · simp (disch := first | assumption | exact b01_or _ | (simp (decide := true) only [WB_U, WK_U, WL_U]; assumption) | omega | (simp only [rowU, Nat.reduceEqDiff, ↓reduceIte]; omega)) only [ne_eq, not_true_eq_false, not_false_eq_true, if_true, if_false, ite_true, ite_false, caln_v, caln_r, caln_x, Int.reduceEq, Int.reduceNe, Int.reduceLT, Int.reduceLE, Int.reduceAdd, Int.reduceMul, Int.reduceSub, e5, hl, b194_30, tH_49, b194_33, b194_39]
        · simp (disch := first | assumption | exact b01_or _ | (simp (decide := true) only [WB_U, WK_U, WL_U]; assumption) | omega | (simp only [rowU, Nat.reduceEqDiff, ↓reduceIte]; omega)) only [ne_eq, not_true_eq_false, not_false_eq_true, if_true, if_false, ite_true, ite_false, caln_v, caln_r, caln_x, Int.reduceEq, Int.reduceNe, Int.reduceLT, Int.reduceLE, Int.reduceAdd, Int.reduceMul, Int.reduceSub, e5, hl, b194_14, b194_30, tH_49, b194_33, b194_39]
    · intro _ hk
      rw [if_neg (fun ⟨k, a, b, c⟩ => by have := hk k a b; omega), b194_10 L]
      simp only [e5, Int.le_refl, if_true]
      rw [b194_30 L, tH_49]
      simp only [Int.le_refl, if_true]
      have W2 : WT (tH I 0) := by rw [WT_tH]; exact W
      have D2 : WD (tH I 0) := by rw [WD_tH]; exact D
      rw [b194_35 L, r192' L W2 D2 hs (by decide)]
      obtain ⟨J, x, e⟩ := tR_s (h := h) (I := tH I 0) (s := s) (c := 0)
      rw [e, caln_r, b194_39]
  · rw [if_neg hs]
    simp (disch := first | assumption | exact b01_or _ | (simp (decide := true) only [WB_U, WK_U, WL_U]; assumption) | omega | (simp only [rowU, Nat.reduceEqDiff, ↓reduceIte]; omega)) only [ne_eq, not_true_eq_false, not_false_eq_true, if_true, if_false, ite_true, ite_false, caln_v, caln_r, caln_x, Int.reduceEq, Int.reduceNe, Int.reduceLT, Int.reduceLE, Int.reduceAdd, Int.reduceMul, Int.reduceSub, b194_0, r164, b194_3, b01_f hs, b194_6, b194_7, zu2_tI]
    rw [b194_10 L]
    by_cases hl : I 94 5 ≤ 0
    · simp (disch := first | assumption | exact b01_or _ | (simp (decide := true) only [WB_U, WK_U, WL_U]; assumption) | omega | (simp only [rowU, Nat.reduceEqDiff, ↓reduceIte]; omega)) only [ne_eq, not_true_eq_false, not_false_eq_true, if_true, if_false, ite_true, ite_false, caln_v, caln_r, caln_x, Int.reduceEq, Int.reduceNe, Int.reduceLT, Int.reduceLE, Int.reduceAdd, Int.reduceMul, Int.reduceSub, e5, hl, b194_30, tH_49, b194_33, b194_39]
    · simp (disch := first | assumption | exact b01_or _ | (simp (decide := true) only [WB_U, WK_U, WL_U]; assumption) | omega | (simp only [rowU, Nat.reduceEqDiff, ↓reduceIte]; omega)) only [ne_eq, not_true_eq_false, not_false_eq_true, if_true, if_false, ite_true, ite_false, caln_v, caln_r, caln_x, Int.reduceEq, Int.reduceNe, Int.reduceLT, Int.reduceLE, Int.reduceAdd, Int.reduceMul, Int.reduceSub, e5, hl, b194_14, b194_30, tH_49, b194_33, b194_39]
/-- a pair of the draft, at k and k + 1, is as a FOLDER asks -/
def fC (I : Nat → Int → Int) (k : Int) : Prop := I 99 k < 10 ∧ (k = 0 ∨ I 99 (k - 2) < I 99 k) ∧ 0 ≤ fnd I (I 99 (k + 1)) ∧ I 95 (fnd I (I 99 (k + 1))) < 2
def fB (I : Nat → Int → Int) : Prop := I 94 5 % 2 = 0 ∧ ∀ i, 0 ≤ i → 2 * i < I 94 5 → fC I (2 * i)
theorem r195 {h : HP} {I : Nat → Int → Int} {v1 v2 v3 : MV} (L : LX 11 h 94) (W : WB I) (D : WD I) : Go 195 0 [.inr (.inl (some 94)), v1, v2, v3] [] (mI h I) = some (mI h I, .inl (some (.inl (b01 (fB I))))) := by
  have ht := WB_t W
  have hd := D.1
  by_cases hp : I 94 5 % 2 = 0
  · have h11 : Go 195 0 [.inr (.inl (some 94)), v1, v2, v3] [] (mI h I) = Go 195 11 [.inr (.inl (some 94)), .inl (b01 True), .inl (2 * 0), v3] [] (mI h I) := by
      rw [b01_t trivial]
      simp (disch := first | assumption | exact b01_or _ | (simp (decide := true) only [WB_U, WK_U, WL_U]; assumption) | omega | (simp only [rowU, Nat.reduceEqDiff, ↓reduceIte]; omega)) only [ne_eq, not_true_eq_false, not_false_eq_true, if_true, if_false, ite_true, ite_false, caln_v, caln_r, caln_x, Int.reduceEq, Int.reduceNe, Int.reduceLT, Int.reduceLE, Int.reduceAdd, Int.reduceMul, Int.reduceSub, b195_0, hp, b195_5, b195_8]
    rw [h11]
    refine lpQ (fun i (x : Prop × MV) => Go 195 11 [.inr (.inl (some 94)), .inl (b01 x.1), .inl (2 * i), x.2] [] (mI h I)) (fun i x => x.1 = ∀ j, 0 ≤ j → j < i → fC I (2 * j)) (fun r => r = some (mI h I, .inl (some (.inl (b01 (fB I)))))) 0 (I 94 5 / 2) (by omega) ?_ ?_ (True, v3) (eq_true (fun j a b => by omega)).symm
    · rintro i ⟨x, v⟩ i0 i1 hx
      dsimp only at hx ⊢
      have hk : ¬ I 94 5 ≤ 2 * i := by omega
      by_cases hxt : x
      · right
        have hf := fnd_lt (I := I) (x := I 99 (2 * i + 1)) ht.1
        have hd0 := D.2 (2 * i) (by omega) (by omega)
        have hgo : ∀ c : Prop, Go 195 25 [.inr (.inl (some 94)), .inl 1, .inl (2 * i), v] [.inl (fnd I (I 99 (2 * i + 1)))] (mI h I) = Go 195 56 [.inr (.inl (some 94)), .inl 1, .inl (2 * i), .inl (fnd I (I 99 (2 * i + 1)))] [.inl (b01 (fC I (2 * i)))] (mI h I) := by
          intro c
          by_cases q1 : 10 ≤ I 99 (2 * i)
          · rw [b01_f (fun q => by have := q.1; omega)]
            simp (disch := first | assumption | exact b01_or _ | (simp (decide := true) only [WB_U, WK_U, WL_U]; assumption) | omega | (simp only [rowU, Nat.reduceEqDiff, ↓reduceIte]; omega)) only [ne_eq, not_true_eq_false, not_false_eq_true, if_true, if_false, ite_true, ite_false, caln_v, caln_r, caln_x, Int.reduceEq, Int.reduceNe, Int.reduceLT, Int.reduceLE, Int.reduceAdd, Int.reduceMul, Int.reduceSub, b195_25, q1, b195_55]
          · have fin : (2 * i = 0 ∨ I 99 (2 * i - 2) < I 99 (2 * i)) → Go 195 45 [.inr (.inl (some 94)), .inl 1, .inl (2 * i), .inl (fnd I (I 99 (2 * i + 1)))] [] (mI h I) = Go 195 56 [.inr (.inl (some 94)), .inl 1, .inl (2 * i), .inl (fnd I (I 99 (2 * i + 1)))] [.inl (b01 (fC I (2 * i)))] (mI h I) := by
              intro q2
              by_cases q3 : fnd I (I 99 (2 * i + 1)) < 0
              · rw [b01_f (fun q => by have := q.2.2.1; omega)]
                simp (disch := first | assumption | exact b01_or _ | (simp (decide := true) only [WB_U, WK_U, WL_U]; assumption) | omega | (simp only [rowU, Nat.reduceEqDiff, ↓reduceIte]; omega)) only [ne_eq, not_true_eq_false, not_false_eq_true, if_true, if_false, ite_true, ite_false, caln_v, caln_r, caln_x, Int.reduceEq, Int.reduceNe, Int.reduceLT, Int.reduceLE, Int.reduceAdd, Int.reduceMul, Int.reduceSub, b195_45, q3, b195_55]
              · by_cases q4 : 2 ≤ I 95 (fnd I (I 99 (2 * i + 1)))
                · rw [b01_f (fun q => by have := q.2.2.2; omega)]
                  simp (disch := first | assumption | exact b01_or _ | (simp (decide := true) only [WB_U, WK_U, WL_U]; assumption) | omega | (simp only [rowU, Nat.reduceEqDiff, ↓reduceIte]; omega)) only [ne_eq, not_true_eq_false, not_false_eq_true, if_true, if_false, ite_true, ite_false, caln_v, caln_r, caln_x, Int.reduceEq, Int.reduceNe, Int.reduceLT, Int.reduceLE, Int.reduceAdd, Int.reduceMul, Int.reduceSub, b195_45, q3, b195_47, q4, b195_55]
                · rw [b01_t ⟨by omega, q2, by omega, by omega⟩]
                  simp (disch := first | assumption | exact b01_or _ | (simp (decide := true) only [WB_U, WK_U, WL_U]; assumption) | omega | (simp only [rowU, Nat.reduceEqDiff, ↓reduceIte]; omega)) only [ne_eq, not_true_eq_false, not_false_eq_true, if_true, if_false, ite_true, ite_false, caln_v, caln_r, caln_x, Int.reduceEq, Int.reduceNe, Int.reduceLT, Int.reduceLE, Int.reduceAdd, Int.reduceMul, Int.reduceSub, b195_45, q3, b195_47, q4, b195_53]
            by_cases q2 : 2 * i = 0
            · rw [b195_25 L (by omega)]
              simp only [q1, if_false]
              rw [b195_32]
              simp only [q2, if_true]
              have := fin (Or.inl q2)
              rw [q2] at this
              exact this
            · rw [b195_25 L (by omega)]
              simp only [q1, if_false]
              rw [b195_32]
              simp only [q2, if_false]
              have hd2 := D.2 (2 * i - 2) (by omega) (by omega)
              rw [b195_34 L (by omega) (by omega) (by omega)]
              by_cases q5 : I 99 (2 * i) ≤ I 99 (2 * i - 2)
              · rw [b01_f (fun q => by have := q.2.1; omega)]
                simp only [q5, if_true, b195_55]
              · simp only [q5, if_false]
                exact fin (Or.inr (by omega))
        refine ⟨(fC I (2 * i), .inl (fnd I (I 99 (2 * i + 1)))), ?_, ?_⟩
        · rw [b195_11 L, b01_t hxt]
          simp only [hk, if_false]
          rw [b195_15]
          simp only [ne_eq, not_true_eq_false, not_false_eq_true, if_true, if_false, ite_true, ite_false, caln_v, caln_r, caln_x, Int.reduceEq, Int.reduceNe, Int.reduceLT, Int.reduceLE, Int.reduceAdd, Int.reduceMul, Int.reduceSub]
          rw [b195_17 L (by omega) (by omega), r165 L ht, caln_r, hgo True, b195_56 (by omega)]
          rw [show 2 * i + 2 = 2 * (i + 1) by omega]
        · dsimp only
          have hx2 : ∀ j, 0 ≤ j → j < i → fC I (2 * j) := by rw [← hx]; exact hxt
          refine propext ⟨fun q j a b => ?_, fun q => q i i0 (by omega)⟩
          by_cases hj : j = i
          · subst hj; exact q
          · exact hx2 j a (by omega)
      · left
        have hn : ¬ fB I := fun q => hxt (by rw [hx]; exact fun j a b => q.2 j a (by omega))
        rw [b195_11 L, b01_f hxt, b01_f hn]
        simp (disch := first | assumption | exact b01_or _ | (simp (decide := true) only [WB_U, WK_U, WL_U]; assumption) | omega | (simp only [rowU, Nat.reduceEqDiff, ↓reduceIte]; omega)) only [ne_eq, not_true_eq_false, not_false_eq_true, if_true, if_false, ite_true, ite_false, caln_v, caln_r, caln_x, Int.reduceEq, Int.reduceNe, Int.reduceLT, Int.reduceLE, Int.reduceAdd, Int.reduceMul, Int.reduceSub, hk, b195_15, b195_59]
    · rintro ⟨x, v⟩ hx
      dsimp only at hx ⊢
      have hk : I 94 5 ≤ 2 * (I 94 5 / 2) := by omega
      rw [b195_11 L]
      simp only [hk, if_true]
      have : (∀ j, 0 ≤ j → j < I 94 5 / 2 → fC I (2 * j)) = fB I := propext ⟨fun q => ⟨hp, fun i a b => q i a (by omega)⟩, fun q j a b => q.2 j a (by omega)⟩
      rw [b195_59 (b01_or _), hx, this]
  · rw [b01_f (fun q => hp q.1)]
    simp (disch := first | assumption | exact b01_or _ | (simp (decide := true) only [WB_U, WK_U, WL_U]; assumption) | omega | (simp only [rowU, Nat.reduceEqDiff, ↓reduceIte]; omega)) only [ne_eq, not_true_eq_false, not_false_eq_true, if_true, if_false, ite_true, ite_false, caln_v, caln_r, caln_x, Int.reduceEq, Int.reduceNe, Int.reduceLT, Int.reduceLE, Int.reduceAdd, Int.reduceMul, Int.reduceSub, b195_0, hp, b195_7, b195_8]
    rw [b195_11 L]
    by_cases hl : I 94 5 ≤ 0
    · simp (disch := first | assumption | exact b01_or _ | (simp (decide := true) only [WB_U, WK_U, WL_U]; assumption) | omega | (simp only [rowU, Nat.reduceEqDiff, ↓reduceIte]; omega)) only [ne_eq, not_true_eq_false, not_false_eq_true, if_true, if_false, ite_true, ite_false, caln_v, caln_r, caln_x, Int.reduceEq, Int.reduceNe, Int.reduceLT, Int.reduceLE, Int.reduceAdd, Int.reduceMul, Int.reduceSub, hl, b195_59]
    · simp (disch := first | assumption | exact b01_or _ | (simp (decide := true) only [WB_U, WK_U, WL_U]; assumption) | omega | (simp only [rowU, Nat.reduceEqDiff, ↓reduceIte]; omega)) only [ne_eq, not_true_eq_false, not_false_eq_true, if_true, if_false, ite_true, ite_false, caln_v, caln_r, caln_x, Int.reduceEq, Int.reduceNe, Int.reduceLT, Int.reduceLE, Int.reduceAdd, Int.reduceMul, Int.reduceSub, hl, b195_15, b195_59]
theorem fnd_tH {I : Nat → Int → Int} {x y : Int} : fnd (tH I x) y = fnd I y := by
  unfold fnd
  rw [tH_n (by decide), tH_94 (by decide)]
/-- there or promised -/
def Kn (I : Nat → Int → Int) (s o : Int) : Prop := Th I s o ∨ I 117 (120 * s + o) ≠ 0
def fK (I : Nat → Int → Int) (s : Int) : Prop := ∀ i, 0 ≤ i → 2 * i + 1 < I 94 5 → Kn I s (fnd I (I 99 (2 * i + 1)))
theorem r196 {h : HP} {I : Nat → Int → Int} {s : Int} {v2 v3 : MV} (L : LX 11 h 94) (W : WT I) (D : WD I) :
    Go 196 0 [.inr (.inl (some 94)), .inl s, v2, v3] [] (mI h I) = if s = 0 ∨ s = 1 then (@ite _ (fB I) (Classical.propDecidable _) (@ite _ (fK I s) (Classical.propDecidable _) (tR h (tH I 0) s 1) (some (mI h (tH I 3), .inl (some (.inl 0))))) (some (mI h (tH I 2), .inl (some (.inl 0))))) else some (mI h (tH I 1), .inl (some (.inl 0))) := by
  have e5 : ∀ t, tH I t 94 5 = I 94 5 := fun t => tH_94 (by decide)
  have e0 : ∀ t, tH I t 94 0 = I 94 0 := fun t => tH_94 (by decide)
  have n9 : ∀ t, tH I t 99 = I 99 := fun t => tH_n (by decide)
  have hd := D.1
  have ht := WB_t W.1
  have out : ∀ t : Int, 0 < t → ∀ k : Int, ∀ v : MV, Go 196 15 [.inr (.inl (some 94)), .inl s, .inl k, v] [] (mI h (tH I t)) = some (mI h (tH I t), .inl (some (.inl 0))) := by
    intro t h0 k v
    have h1 : ¬ t = 0 := by omega
    have h2 : ¬ t ≤ 0 := by omega
    rw [b196_15 L]
    by_cases hl : I 94 5 ≤ k
    · simp (disch := first | assumption | exact b01_or _ | (simp (decide := true) only [WB_U, WK_U, WL_U]; assumption) | omega | (simp only [rowU, Nat.reduceEqDiff, ↓reduceIte]; omega)) only [ne_eq, not_true_eq_false, not_false_eq_true, if_true, if_false, ite_true, ite_false, caln_v, caln_r, caln_x, Int.reduceEq, Int.reduceNe, Int.reduceLT, Int.reduceLE, Int.reduceAdd, Int.reduceMul, Int.reduceSub, e5, hl, b196_50, tH_49, h2, b196_53, b196_59]
    · simp (disch := first | assumption | exact b01_or _ | (simp (decide := true) only [WB_U, WK_U, WL_U]; assumption) | omega | (simp only [rowU, Nat.reduceEqDiff, ↓reduceIte]; omega)) only [ne_eq, not_true_eq_false, not_false_eq_true, if_true, if_false, ite_true, ite_false, caln_v, caln_r, caln_x, Int.reduceEq, Int.reduceNe, Int.reduceLT, Int.reduceLE, Int.reduceAdd, Int.reduceMul, Int.reduceSub, e5, hl, b196_19, b196_50, tH_49, h1, h2, b196_53, b196_59]
  by_cases hs : s = 0 ∨ s = 1
  · rw [if_pos hs]
    by_cases hf : fB I
    · rw [if_pos hf]
      have h10 : Go 196 0 [.inr (.inl (some 94)), .inl s, v2, v3] [] (mI h I) = Go 196 15 [.inr (.inl (some 94)), .inl s, .inl (2 * 0 + 1), v3] [] (mI h (tH I 0)) := by
        simp (disch := first | assumption | exact b01_or _ | (simp (decide := true) only [WB_U, WK_U, WL_U]; assumption) | omega | (simp only [rowU, Nat.reduceEqDiff, ↓reduceIte]; omega)) only [ne_eq, not_true_eq_false, not_false_eq_true, if_true, if_false, ite_true, ite_false, caln_v, caln_r, caln_x, Int.reduceEq, Int.reduceNe, Int.reduceLT, Int.reduceLE, Int.reduceAdd, Int.reduceMul, Int.reduceSub, b196_0, r164, b196_3, b01_t hs, b196_6, r195 L W.1 D, b01_t hf, b196_8, b196_11, b196_12, zu2_tI]
      rw [h10]
      have hdv := hf.1
      refine lpQ (fun i (v : MV) => Go 196 15 [.inr (.inl (some 94)), .inl s, .inl (2 * i + 1), v] [] (mI h (tH I 0))) (fun i _ => ∀ j, 0 ≤ j → j < i → Kn I s (fnd I (I 99 (2 * j + 1)))) (fun r => r = @ite _ (fK I s) (Classical.propDecidable _) (tR h (tH I 0) s 1) (some (mI h (tH I 3), .inl (some (.inl 0))))) 0 (I 94 5 / 2) (by omega) ?_ ?_ v3 (fun j a b => by omega)
      · intro i v i0 i1 hk
        have hk1 : ¬ I 94 5 ≤ 2 * i + 1 := by omega
        have hff := hf.2 i i0 (by omega)
        have hlt := fnd_lt (I := I) (x := I 99 (2 * i + 1)) ht.1
        have hf0 := hff.2.2.1
        clear hff
        have K2 : WK (tH I 0) := W.2.2.2.1
        have h28 : Go 196 15 [.inr (.inl (some 94)), .inl s, .inl (2 * i + 1), v] [] (mI h (tH I 0)) = caln 196 [.inr (.inl (some 94)), .inl s, .inl (2 * i + 1), .inl (fnd I (I 99 (2 * i + 1)))] [.inr (.inl (some 94))] 34 (some (mI h (tH I 0), .inl (some (.inl (b01 (Th I s (fnd I (I 99 (2 * i + 1))))))))) := by
          rw [b196_15 L]
          simp (disch := first | assumption | exact b01_or _ | (simp (decide := true) only [WB_U, WK_U, WL_U]; assumption) | omega | (simp only [rowU, Nat.reduceEqDiff, ↓reduceIte]; omega)) only [ne_eq, not_true_eq_false, not_false_eq_true, if_true, if_false, ite_true, ite_false, caln_v, caln_r, caln_x, Int.reduceEq, Int.reduceNe, Int.reduceLT, Int.reduceLE, Int.reduceAdd, Int.reduceMul, Int.reduceSub, e5, hk1, b196_19, tH_49, b196_22, n9]
          rw [r165 L (by rw [e0]; exact ht), fnd_tH, caln_r, b196_28 L, r179 L K2 hs (by omega)]
          rfl
        by_cases hth : Th I s (fnd I (I 99 (2 * i + 1)))
        · right
          refine ⟨.inl (fnd I (I 99 (2 * i + 1))), ?_, fun j a b => ?_⟩
          · rw [h28, b01_t hth]
            simp (disch := first | assumption | exact b01_or _ | (simp (decide := true) only [WB_U, WK_U, WL_U]; assumption) | omega | (simp only [rowU, Nat.reduceEqDiff, ↓reduceIte]; omega)) only [ne_eq, not_true_eq_false, not_false_eq_true, if_true, if_false, ite_true, ite_false, caln_v, caln_r, caln_x, Int.reduceEq, Int.reduceNe, Int.reduceLT, Int.reduceLE, Int.reduceAdd, Int.reduceMul, Int.reduceSub, b196_34, b196_44, b196_47, zu2_tH]
            rw [show 2 * i + 1 + 2 = 2 * (i + 1) + 1 by omega]
          · by_cases hj : j = i
            · subst hj; exact Or.inl hth
            · exact hk j a (by omega)
        · have n17 : tH I 0 117 = I 117 := tH_n (by decide)
          by_cases hpr : I 117 (120 * s + fnd I (I 99 (2 * i + 1))) = 0
          · left
            rw [if_neg (fun q => (q i i0 (by omega)).elim hth (fun q => q hpr)), h28, b01_f hth]
            simp (disch := first | assumption | exact b01_or _ | (simp (decide := true) only [WB_U, WK_U, WL_U]; assumption) | omega | (simp only [rowU, Nat.reduceEqDiff, ↓reduceIte]; omega)) only [ne_eq, not_true_eq_false, not_false_eq_true, if_true, if_false, ite_true, ite_false, caln_v, caln_r, caln_x, Int.reduceEq, Int.reduceNe, Int.reduceLT, Int.reduceLE, Int.reduceAdd, Int.reduceMul, Int.reduceSub, b196_34, b196_35, n17, hpr, b196_46, b196_47, zu2_tH]
            rw [out 3 (by decide)]
          · right
            refine ⟨.inl (fnd I (I 99 (2 * i + 1))), ?_, fun j a b => ?_⟩
            · rw [h28, b01_f hth]
              simp (disch := first | assumption | exact b01_or _ | (simp (decide := true) only [WB_U, WK_U, WL_U]; assumption) | omega | (simp only [rowU, Nat.reduceEqDiff, ↓reduceIte]; omega)) only [ne_eq, not_true_eq_false, not_false_eq_true, if_true, if_false, ite_true, ite_false, caln_v, caln_r, caln_x, Int.reduceEq, Int.reduceNe, Int.reduceLT, Int.reduceLE, Int.reduceAdd, Int.reduceMul, Int.reduceSub, b196_34, b196_35, n17, hpr, b196_44, b196_47, zu2_tH]
              rw [show 2 * i + 1 + 2 = 2 * (i + 1) + 1 by omega]
            · by_cases hj : j = i
              · subst hj; exact Or.inr hpr
              · exact hk j a (by omega)
      · intro v hk
        have hk1 : I 94 5 ≤ 2 * (I 94 5 / 2) + 1 := by omega
        rw [if_pos (show fK I s from fun i a b => hk i a (by omega)), b196_15 L]
        simp only [e5, hk1, if_true]
        rw [b196_50 L, tH_49]
        simp only [Int.le_refl, if_true]
        have W2 : WT (tH I 0) := by rw [WT_tH]; exact W
        have D2 : WD (tH I 0) := by rw [WD_tH]; exact D
        rw [b196_55 L, r192' L W2 D2 hs (by decide)]
        obtain ⟨J, x, e⟩ := tR_s (h := h) (I := tH I 0) (s := s) (c := 1)
        rw [e, caln_r, b196_59]
    · rw [if_neg hf]
      simp (disch := first | assumption | exact b01_or _ | (simp (decide := true) only [WB_U, WK_U, WL_U]; assumption) | omega | (simp only [rowU, Nat.reduceEqDiff, ↓reduceIte]; omega)) only [ne_eq, not_true_eq_false, not_false_eq_true, if_true, if_false, ite_true, ite_false, caln_v, caln_r, caln_x, Int.reduceEq, Int.reduceNe, Int.reduceLT, Int.reduceLE, Int.reduceAdd, Int.reduceMul, Int.reduceSub, b196_0, r164, b196_3, b01_t hs, b196_6, r195 L W.1 D, b01_f hf, b196_8, b196_9, b196_12, zu2_tI]
      rw [out 2 (by decide)]
  · rw [if_neg hs]
    simp (disch := first | assumption | exact b01_or _ | (simp (decide := true) only [WB_U, WK_U, WL_U]; assumption) | omega | (simp only [rowU, Nat.reduceEqDiff, ↓reduceIte]; omega)) only [ne_eq, not_true_eq_false, not_false_eq_true, if_true, if_false, ite_true, ite_false, caln_v, caln_r, caln_x, Int.reduceEq, Int.reduceNe, Int.reduceLT, Int.reduceLE, Int.reduceAdd, Int.reduceMul, Int.reduceSub, b196_0, r164, b196_3, b01_f hs, b196_4, b196_12, zu2_tI]
    rw [out 1 (by decide)]
