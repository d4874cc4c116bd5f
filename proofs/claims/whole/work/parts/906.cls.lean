/-! ===== the class (36): the walker goes ===== -/
theorem k88 {h : HP} {I J : Nat → Int → Int} {n : Nat} {s x y : Int} {v4 : MV} (L0 : LX 0 h 2) (L9 : LX 9 h 76) (L4 : LX 4 h n) (hn : n + 4 < 76) (B : BC I J) (R : RB J) (N : NC I J n s) (W8 : WN J) (V : WV J) (V8 : ∀ o, 0 ≤ o → o < J 94 0 → J 95 o ≠ 2 → J 118 (120 * s + o) = 0) (hs : s = 0 ∨ s = 1) (hx : Vs J x) (hy : y = -1 ∨ Vs J y) (A : ∀ k b, Vs J k → Es J s 0 k b → ¬Cl (Es J s 0) (fun j => j = b) k)
    (h78 : ∀ j, j < 0 ∨ 100 ≤ j → I 78 j = 0) (h79 : ∀ j, j < 0 ∨ 100 ≤ j → I 79 j = 0) :
    ∃ (I1 : Nat → Int → Int) (f : Int → Int) (c : Int), Go 88 0 [.inr (.inl (some 76)), .inr (.inl (some n)), .inl x, .inl y, v4] [] (mI h I) = some (mI h I1, .inl none) ∧ Gn (Es J s 0) (Vs J) f ∧ I1 76 5 = c ∧ (0 ≤ c ∧ c ≤ J 94 0) ∧ Enum (fun j => Cl (Es J s 0) (fun i => 0 ≤ i ∧ i = x) j ∧ ¬Cl (Es J s 0) (fun i => 0 ≤ i ∧ i = y) j) (Ah J s f) c (I1 80) ∧ (∀ c, c < 76 ∨ 80 < c → I1 c = I c) ∧ (∀ k, k ≠ 5 → I1 76 k = I 76 k) ∧ I1 78 = ind (Cl (Es J s 0) (fun i => 0 ≤ i ∧ i = x)) ∧ I1 79 = ind (Cl (Es J s 0) (fun i => 0 ≤ i ∧ i = y)) := by
  have hT := R.1.1
  obtain ⟨X, hX⟩ : ∃ X : Int → Prop, X = Cl (Es J s 0) (fun i => 0 ≤ i ∧ i = x) := ⟨_, rfl⟩
  obtain ⟨Y, hY⟩ : ∃ Y : Int → Prop, Y = Cl (Es J s 0) (fun i => 0 ≤ i ∧ i = y) := ⟨_, rfl⟩
  have XV : ∀ j, X j → Vs J j := fun j q => by
    rw [hX] at q
    exact Cl_ind (P := Vs J) q (fun a qa => by rw [qa.2]; exact hx) (fun a b pa eb => Es_v R.1 W8 V hs pa eb)
  obtain ⟨f, e1, G, fb⟩ := k96t (h := h) (I := I) (J := J) (n := n) (s := s) (d := 0) (v3 := vU) (v4 := vU) (v5 := vU) L0 L9 L4 (by omega) B R N W8 V V8 hs (Or.inl rfl) A
  rw [Int.sub_zero] at e1
  obtain ⟨I0, hI0⟩ : ∃ I0, I0 = rowU I 77 f := ⟨_, rfl⟩
  have fr0 : ∀ c, c ≠ 77 → I0 c = I c := fun c hc => by rw [hI0, rowU_ne hc]
  have B0 : ∀ K : Nat → Int → Int, (∀ c, c < 76 → K c = I c) → BC K J := fun K hK => by rw [BC_I (I := I) (fun c hc => hK c (by omega))]; exact B
  have N0 : ∀ K : Nat → Int → Int, (∀ c, c < 76 → K c = I c) → NC K J n s := fun K hK => by
    unfold NC
    rw [NO_I (I := I) (n := n) (fun c c0 c1 => hK c (by omega))]
    exact N
  have l78 : hK h 78 = (1, 100) := LX_k L9 2 false 2 1 100 rfl
  have l79 : hK h 79 = (1, 100) := LX_k L9 3 false 3 1 100 rfl
  have e2 := k94 (h := h) (I := I0) (J := J) (n := n) (m := 78) (s := s) (x := x) (v4 := vU) (v5 := vU) (v6 := vU) L0 L9 L4 l78 (by decide) (by omega) (B0 I0 (fun c hc => fr0 c (by omega))) R (N0 I0 (fun c hc => fr0 c (by omega))) W8 V hs (Or.inr hx) (by rw [fr0 78 (by decide)]; exact h78)
  obtain ⟨I2, hI2⟩ : ∃ I2, I2 = rowU I0 78 (ind X) := ⟨_, rfl⟩
  rw [← hX, ← hI2] at e2
  have fr2 : ∀ c, c ≠ 77 → c ≠ 78 → I2 c = I c := fun c hc h8 => by rw [hI2, rowU_ne h8, fr0 c hc]
  have e3 := k94 (h := h) (I := I2) (J := J) (n := n) (m := 79) (s := s) (x := y) (v4 := vU) (v5 := vU) (v6 := vU) L0 L9 L4 l79 (by decide) (by omega) (B0 I2 (fun c hc => fr2 c (by omega) (by omega))) R (N0 I2 (fun c hc => fr2 c (by omega) (by omega))) W8 V hs hy (by rw [fr2 79 (by decide) (by decide)]; exact h79)
  obtain ⟨I3, hI3⟩ : ∃ I3, I3 = zu2 (rowU I2 79 (ind Y)) 76 5 0 := ⟨_, rfl⟩
  rw [← hY] at e3
  have fr3 : ∀ c, c < 76 ∨ 79 < c → I3 c = I c := fun c hc => by rw [hI3, zu2_row, rowU_ne (by omega), rowU_ne (by omega), fr2 c (by omega) (by omega)]
  have i76 : I3 76 = up1 (I 76) 5 0 := by rw [hI3, zu2_row, rowU_eq, rowU_ne (by decide), fr2 76 (by decide) (by decide)]
  have i77 : I3 77 = f := by rw [hI3, zu2_row, rowU_ne (by decide), rowU_ne (by decide), hI2, rowU_ne (by decide), hI0, rowU_eq]
  have i78 : I3 78 = ind X := by rw [hI3, zu2_row, rowU_ne (by decide), rowU_ne (by decide), hI2, rowU_eq]
  have i79 : I3 79 = ind Y := by rw [hI3, zu2_row, rowU_ne (by decide), rowU_eq]
  have key := lpE (fun k (z : (Nat → Int → Int) × Int) => Go 88 22 [.inr (.inl (some 76)), .inr (.inl (some n)), .inl x, .inl y, .inl k] [] (mI h z.1)) (fun k z => (0 ≤ z.2 ∧ z.2 ≤ k) ∧ z.1 76 5 = z.2 ∧ Enum (fun j => (X j ∧ ¬Y j) ∧ j < k) (Ah J s f) z.2 (z.1 80) ∧ (∀ c, c ≠ 76 → c ≠ 80 → z.1 c = I3 c) ∧ ∀ k, k ≠ 5 → z.1 76 k = I 76 k) 0 (J 94 0) hT.1 ?_ (I3, 0) ⟨⟨Int.le_refl _, Int.le_refl _⟩, by dsimp only; rw [i76, up1_eq], ⟨fun i a b => by dsimp only at b; omega, fun i j a b c => by dsimp only at c; omega, fun j q => by have := (XV j q.1.1).1.1; omega⟩, fun _ _ _ => rfl, fun k hk => by dsimp only; rw [i76, up1_ne hk]⟩
  · obtain ⟨⟨K, c⟩, e, q1, q2, q3, q4, q5⟩ := key
    dsimp only at e q1 q2 q3 q4 q5
    rw [← hX, ← hY]
    refine ⟨K, f, c, ?_, G, q2, ⟨q1.1, q1.2⟩, Enum_c q3 (fun j => ⟨And.left, fun q => ⟨q, (XV j q.1).1.2⟩⟩) (fun _ _ _ _ => Iff.rfl) (fun _ _ _ => rfl), fun c hc => by rw [q4 c (by omega) (by omega), fr3 c (by omega)], q5, by rw [q4 78 (by decide) (by decide), i78], by rw [q4 79 (by decide) (by decide), i79]⟩
    have e27 : K 2 7 = J 94 0 := by rw [q4 2 (by decide) (by decide), fr3 2 (by decide)]; exact B.1
    rw [b88_0 L9, e1, caln_r, b88_4 L9, ← hI0, e2, caln_v, b88_11 L9, e3, caln_v, b88_17 L9, ← hI3, e, b88_22 L9 L0, e27, if_pos (Int.le_refl _), b88_43]
  · rintro k ⟨K, c⟩ k0 k1 ⟨q1, q2, q3, q4, q5⟩
    dsimp only at q1 q2 q3 q4 q5 ⊢
    have e27 : K 2 7 = J 94 0 := by rw [q4 2 (by decide) (by decide), fr3 2 (by decide)]; exact B.1
    have e78 : K 78 k = b01 (X k) := by rw [q4 78 (by decide) (by decide), i78]; rfl
    have e79 : K 79 k = b01 (Y k) := by rw [q4 79 (by decide) (by decide), i79]; rfl
    have e77 : K 77 = f := by rw [q4 77 (by decide) (by decide), i77]
    have no : ¬(X k ∧ ¬Y k) → Enum (fun j => (X j ∧ ¬Y j) ∧ j < k + 1) (Ah J s f) c (K 80) := fun nq => Enum_c q3 (fun j => ⟨fun q => ⟨q.1, by omega⟩, fun q => ⟨q.1, by
      by_cases hj : j = k
      · subst hj; exact absurd q.1 nq
      · have := q.2; omega⟩⟩) (fun _ _ _ _ => Iff.rfl) (fun _ _ _ => rfl)
    rw [b88_22 L9 L0, e27, if_neg (by omega), b88_27 L9 (by omega), e78]
    by_cases cx : X k
    · rw [b01_t cx, if_neg neg1_ne, b88_32 L9 (by omega), e79]
      by_cases cy : Y k
      · rw [b01_t cy, if_pos neg1_ne, b88_41 (by omega)]
        exact ⟨(K, c), rfl, ⟨q1.1, by dsimp only; omega⟩, q2, no (fun q => q.2 cy), q4, q5⟩
      · have low : ∀ c, c < 76 → K c = I c := fun c hc => by rw [q4 c (by omega) (by omega), fr3 c (by omega)]
        obtain ⟨g, e, E1⟩ := k89 (h := h) (I := K) (J := J) (n := n) (s := s) (x := k) (c := c) (S := fun j => (X j ∧ ¬Y j) ∧ j < k) (v3 := vU) L0 L9 L4 hn (B0 K low) R (N0 K low) W8 V hs (XV k cx) (fun j q => XV j q.1.1) (fun q => by have := q.2; omega) q2 ⟨q1.1, by omega⟩ (by rw [e77]; exact q3)
        rw [e77] at E1
        rw [b01_f cy, if_neg (fun t => t rfl), b88_37 L9, e, caln_v, b88_41 (by omega)]
        refine ⟨(rowU (rowU K 80 g) 76 (up1 (K 76) 5 (c + 1)), c + 1), rfl, ⟨by dsimp only; omega, by dsimp only; omega⟩, by dsimp only; rw [rowU_eq, up1_eq], ?_, fun b b1 b2 => by dsimp only; rw [rowU_ne b1, rowU_ne b2, q4 b b1 b2], fun i hi => by dsimp only; rw [rowU_eq, up1_ne hi, q5 i hi]⟩
        dsimp only
        rw [rowU_ne (by decide), rowU_eq]
        refine Enum_c E1 (fun j => ⟨?_, fun q => ?_⟩) (fun _ _ _ _ => Iff.rfl) (fun _ _ _ => rfl)
        · rintro (q | q)
          · exact ⟨q.1, by have := q.2; omega⟩
          · subst q; exact ⟨⟨cx, cy⟩, by omega⟩
        · by_cases hj : j = k
          · exact Or.inr hj
          · exact Or.inl ⟨q.1, by have := q.2; omega⟩
    · rw [b01_f cx, if_pos rfl, b88_41 (by omega)]
      exact ⟨(K, c), rfl, ⟨q1.1, by dsimp only; omega⟩, q2, no (fun q => cx q.1), q4, q5⟩
