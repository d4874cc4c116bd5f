/-! ===== the class (4): putting in at its place; add ===== -/
def shR (f : Int → Int) (p n : Int) : Int → Int := fun i => if p < i ∧ i ≤ n then f (i - 1) else f i
theorem lpIns {R : Type} (Ls : Int → (Int → Int) → R) (Fin : (Int → Int) → R) (c : Int → Prop) (f : Int → Int) (x n : Int) (hn : 0 ≤ n)
    (h1 : ∀ p g, 0 < p → p ≤ n → g (p - 1) = f (p - 1) → (∀ i, i < p → g i = f i) → c (f (p - 1)) → Ls p g = Ls (p - 1) (up1 g p (g (p - 1))))
    (h2 : ∀ p g, 0 ≤ p → p ≤ n → (∀ i, i < p → g i = f i) → (p = 0 ∨ ¬c (f (p - 1))) → Ls p g = Fin (up1 g p x)) :
    ∃ p, (0 ≤ p ∧ p ≤ n) ∧ (∀ i, p ≤ i → i < n → c (f i)) ∧ (p = 0 ∨ ¬c (f (p - 1))) ∧ Ls n f = Fin (up1 (shR f p n) p x) := by
  have key : ∀ (d : Nat) (p : Int), p + d = n → 0 ≤ p → (∀ i, p ≤ i → i < n → c (f i)) → Ls n f = Ls p (shR f p n) → ∃ p, (0 ≤ p ∧ p ≤ n) ∧ (∀ i, p ≤ i → i < n → c (f i)) ∧ (p = 0 ∨ ¬c (f (p - 1))) ∧ Ls n f = Fin (up1 (shR f p n) p x) := by
    have main : ∀ (m : Nat) (p : Int), p = m → p ≤ n → (∀ i, p ≤ i → i < n → c (f i)) → Ls n f = Ls p (shR f p n) → ∃ p, (0 ≤ p ∧ p ≤ n) ∧ (∀ i, p ≤ i → i < n → c (f i)) ∧ (p = 0 ∨ ¬c (f (p - 1))) ∧ Ls n f = Fin (up1 (shR f p n) p x) := by
      intro m
      induction m with
      | zero =>
        intro p hp hpn hc e
        exact ⟨p, ⟨by omega, hpn⟩, hc, Or.inl (by omega), by rw [e, h2 p (shR f p n) (by omega) hpn (fun i a => if_neg (by omega)) (Or.inl (by omega))]⟩
      | succ m ih =>
        intro p hp hpn hc e
        by_cases q : c (f (p - 1))
        · refine ih (p - 1) (by omega) (by omega) (fun i a b => ?_) ?_
          · by_cases hi : i = p - 1
            · subst hi; exact q
            · exact hc i (by omega) b
          · have eg : shR f p n (p - 1) = f (p - 1) := if_neg (by omega)
            rw [e, h1 p _ (by omega) hpn eg (fun i a => if_neg (by omega)) q, eg]
            congr 1
            funext i
            unfold up1 shR
            by_cases hi : i = p
            · subst hi
              rw [if_pos rfl, if_pos (by omega)]
            · rw [if_neg hi]
              by_cases hj : p < i ∧ i ≤ n
              · rw [if_pos hj, if_pos (by omega)]
              · rw [if_neg hj, if_neg (by omega)]
        · exact ⟨p, ⟨by omega, hpn⟩, hc, Or.inr q, by rw [e, h2 p (shR f p n) (by omega) hpn (fun i a => if_neg (by omega)) (Or.inr q)]⟩
    intro d p hd h0 hc e
    exact main p.toNat p (by omega) (by omega) hc e
  refine key 0 n (by omega) hn (fun i a b => by omega) ?_
  congr 1
  funext i
  exact (if_neg (by omega)).symm
theorem insE {S : Int → Prop} {A : Int → Int → Prop} {f : Int → Int} {n x p : Int} (t : TO (fun j => S j ∨ j = x) A) (E : Enum S A n f) (hx : ¬S x) (hp : 0 ≤ p ∧ p ≤ n) (h1 : ∀ i, p ≤ i → i < n → A x (f i)) (h2 : p = 0 ∨ ¬A x (f (p - 1))) :
    Enum (fun j => S j ∨ j = x) A (n + 1) (up1 (shR f p n) p x) := by
  have hlow : ∀ i, 0 ≤ i → i < p → A (f i) x := by
    intro i i0 i1
    have hs := E.1 (p - 1) (by omega) (by omega)
    have hne : f (p - 1) ≠ x := fun q => hx (q ▸ hs)
    have hl : A (f (p - 1)) x := (t.1 (f (p - 1)) x (Or.inl hs) (Or.inr rfl) hne).resolve_right (h2.resolve_left (by omega))
    by_cases hi : i = p - 1
    · rw [hi]; exact hl
    · exact t.2.1 _ _ _ (Or.inl (E.1 i i0 (by omega))) (Or.inl hs) (Or.inr rfl) (E.2.1 i (p - 1) i0 (by omega) (by omega)) hl
  have val : ∀ i, 0 ≤ i → i < n + 1 → (i < p ∧ up1 (shR f p n) p x i = f i) ∨ (i = p ∧ up1 (shR f p n) p x i = x) ∨ (p < i ∧ up1 (shR f p n) p x i = f (i - 1)) := by
    intro i i0 i1
    unfold up1 shR
    by_cases q1 : i < p
    · exact Or.inl ⟨q1, by rw [if_neg (by omega), if_neg (by omega)]⟩
    · by_cases q2 : i = p
      · exact Or.inr (Or.inl ⟨q2, by rw [if_pos q2]⟩)
      · exact Or.inr (Or.inr ⟨by omega, by rw [if_neg q2, if_pos (by omega)]⟩)
  refine ⟨fun i i0 i1 => ?_, fun i j i0 ij j1 => ?_, fun z hz => ?_⟩
  · obtain ⟨q, e⟩ | ⟨q, e⟩ | ⟨q, e⟩ := val i i0 i1
    · rw [e]; exact Or.inl (E.1 i i0 (by omega))
    · rw [e]; exact Or.inr rfl
    · rw [e]; exact Or.inl (E.1 (i - 1) (by omega) (by omega))
  · obtain ⟨q, e⟩ | ⟨q, e⟩ | ⟨q, e⟩ := val i i0 (by omega)
    · obtain ⟨r, d⟩ | ⟨r, d⟩ | ⟨r, d⟩ := val j (by omega) j1
      · rw [e, d]; exact E.2.1 i j i0 ij (by omega)
      · rw [e, d]; exact hlow i i0 q
      · rw [e, d]
        by_cases h : i = j - 1
        · omega
        · exact E.2.1 i (j - 1) i0 (by omega) (by omega)
    · obtain ⟨r, d⟩ | ⟨r, d⟩ | ⟨r, d⟩ := val j (by omega) j1
      · omega
      · omega
      · rw [e, d]; exact h1 (j - 1) (by omega) (by omega)
    · obtain ⟨r, d⟩ | ⟨r, d⟩ | ⟨r, d⟩ := val j (by omega) j1
      · omega
      · omega
      · rw [e, d]; exact E.2.1 (i - 1) (j - 1) (by omega) (by omega) (by omega)
  · obtain hz | hz := hz
    · obtain ⟨i, hi, ei⟩ := E.2.2 z hz
      by_cases q : i < p
      · refine ⟨i, by omega, ?_⟩
        unfold up1 shR
        rw [if_neg (by omega), if_neg (by omega), ei]
      · refine ⟨i + 1, by omega, ?_⟩
        unfold up1 shR
        rw [if_neg (by omega), if_pos (by omega), show i + 1 - 1 = i by omega, ei]
    · refine ⟨p, by omega, ?_⟩
      rw [up1_eq, hz]
theorem Enum_c {S T : Int → Prop} {A B : Int → Int → Prop} {n : Int} {f g : Int → Int} (E : Enum S A n f) (h1 : ∀ j, S j ↔ T j) (h2 : ∀ a b, S a → S b → (A a b ↔ B a b)) (h3 : ∀ i, 0 ≤ i → i < n → f i = g i) : Enum T B n g := by
  refine ⟨fun i a b => ?_, fun i j a b c => ?_, fun x hx => ?_⟩
  · rw [← h3 i a b]; exact (h1 _).mp (E.1 i a b)
  · rw [← h3 i a (by omega), ← h3 j (by omega) c]; exact (h2 _ _ (E.1 i a (by omega)) (E.1 j (by omega) c)).mp (E.2.1 i j a b c)
  · obtain ⟨i, hi, e⟩ := E.2.2 x ((h1 x).mpr hx)
    exact ⟨i, hi, by rw [← h3 i hi.1 hi.2]; exact e⟩
theorem k18 {h : HP} {I J : Nat → Int → Int} {c : Int} {v2 : MV} (L : LX 0 h 2) (R : RB J) (N : NB J c) (ht : J 94 0 < 100) (h2 : I 2 7 = J 94 0 + 1) (h4 : ∀ o, 0 ≤ o → o ≤ J 94 0 → I 4 o = nB J c 98 o) (h9 : EnN J (I 9)) :
    ∃ f9, Go 18 0 [.inr (.inl (some 2)), .inl (J 94 0), v2] [] (mI h I) = some (mI h (rowU I 9 f9), .inl none) ∧ EnN (nB J c) f9 := by
  have hT := R.1.1
  have R2 := RB_nB R N ht
  have D2 := RB_nm R2
  obtain ⟨T, hTT⟩ : ∃ T, T = J 94 0 := ⟨_, rfl⟩
  have e0 : nB J c 94 0 = T + 1 := by rw [nB_940, hTT]
  have tO : TO (fun j => (0 ≤ j ∧ j < T) ∨ j = T) (fun a b => nB J c 98 a < nB J c 98 b) := TO_nm D2 (fun j q => by rw [e0]; omega)
  have hE : Enum (fun j => 0 ≤ j ∧ j < T) (fun a b => nB J c 98 a < nB J c 98 b) T (I 9) := by
    have := h9
    unfold EnN at this
    rw [← hTT] at this
    refine Enum_c this (fun j => Iff.rfl) (fun a b qa qb => ?_) (fun i _ _ => rfl)
    rw [nB_98, ← hTT, up1_ne (by omega), up1_ne (by omega)]
  have ins := lpIns (fun p g => Go 18 5 [.inr (.inl (some 2)), .inl T, .inl p] [] (mI h (rowU I 9 g))) (fun g => some (mI h (rowU I 9 g), .inl none)) (fun y => nB J c 98 T < nB J c 98 y) (I 9) T T (by omega) ?_ ?_
  · obtain ⟨p, hp, q1, q2, e⟩ := ins
    rw [rowU_id] at e
    refine ⟨up1 (shR (I 9) p T) p T, ?_, ?_⟩
    · rw [b18_0 L (by omega), h2, show J 94 0 + 1 - 1 = T by omega, ← hTT, e]
    · have := insE tO hE (by omega) hp q1 q2
      unfold EnN
      rw [e0]
      exact Enum_c this (fun j => ⟨fun q => by omega, fun q => by omega⟩) (fun a b _ _ => Iff.rfl) (fun i _ _ => rfl)
  · intro p g p0 p1 eg _ hc
    have hs := hE.1 (p - 1) (by omega) (by omega)
    have ea := h4 (I 9 (p - 1)) hs.1 (by omega)
    have eb := h4 T (by omega) (by omega)
    rw [b18_5, if_neg (by omega), b18_7 L (by omega) (by omega) (by rw [rowU_eq, eg]; omega) (by omega)]
    simp only [rowU, Nat.reduceEqDiff, ↓reduceIte]
    rw [eg, ea, eb, if_neg (by omega), b18_21 L (by omega) (by omega) (by omega) (by omega), zu2_row, rowU_tw, rowU_eq, show p + -1 = p - 1 by omega, eg]
  · intro p g p0 p1 hg hc
    rw [b18_5]
    by_cases hp0 : p ≤ 0
    · rw [if_pos hp0, b18_33 L (by omega), zu2_row, rowU_tw, rowU_eq]
    · have eg := hg (p - 1) (by omega)
      have hs := hE.1 (p - 1) (by omega) (by omega)
      have ea := h4 (I 9 (p - 1)) hs.1 (by omega)
      have eb := h4 T (by omega) (by omega)
      have hc2 := hc.resolve_left (by omega)
      rw [if_neg hp0, b18_7 L (by omega) (by omega) (by rw [rowU_eq, eg]; omega) (by omega)]
      simp only [rowU, Nat.reduceEqDiff, ↓reduceIte]
      rw [eg, ea, eb, if_pos (by omega), b18_33 L (by omega), zu2_row, rowU_tw, rowU_eq]
theorem k13 {h : HP} {I J : Nat → Int → Int} {b : Nat} {c n : Int} {v4 v5 : MV} (L : LX 0 h 2) (B : BC I J) (R : RB J) (N : NB J c) (ht : J 94 0 < 100) (hb : hK h b = (0, 12)) (hb9 : 9 < b) (hn : n = J 94 5) (hE : BE I J b) :
    ∃ I1, Go 13 0 [.inr (.inl (some 2)), .inl c, .inr (.inl (some b)), .inl n, v4, v5] [] (mI h I) = some (mI h I1, .inl (some (.inl (J 94 0)))) ∧ (∀ a, a < 2 ∨ 9 < a → I1 a = I a) ∧ (∀ k, k ≠ 7 → I1 2 k = I 2 k) ∧ BC I1 (nB J c) := by
  have hT := R.1.1
  have hd := N.2.1
  obtain ⟨T, hTT⟩ : ∃ T, T = J 94 0 := ⟨_, rfl⟩
  rw [← hTT] at ht ⊢
  have I27 : I 2 7 = T := by rw [B.1, hTT]
  obtain ⟨I1, hI1⟩ : ∃ I1, I1 = rowU (rowU (rowU I 3 (up1 (I 3) T c)) 5 (up1 (I 5) T n)) 6 (fillR (I 6) (T * 12) (T * 12 + n) (fun j => J 99 (j - T * 12))) := ⟨_, rfl⟩
  have h44 : Go 13 0 [.inr (.inl (some 2)), .inl c, .inr (.inl (some b)), .inl n, v4, v5] [] (mI h I) = Go 13 44 [.inr (.inl (some 2)), .inl c, .inr (.inl (some b)), .inl n, .inl T, .inl n] [] (mI h I1) := by
    rw [b13_0 L, I27, if_neg (by omega), b13_4, if_neg (by omega), b13_7 hb, if_pos (by omega), b13_13 L (by rw [I27]; omega), I27]
    have key := lpU (fun k => Go 13 28 [.inr (.inl (some 2)), .inl c, .inr (.inl (some b)), .inl n, .inl T, .inl k] [] (mI h (rowU (rowU (rowU I 3 (up1 (I 3) T c)) 5 (up1 (I 5) T n)) 6 (fillR (I 6) (T * 12) (T * 12 + k) (fun j => J 99 (j - T * 12)))))) 0 n (by omega) ?_
    · rw [fillR_0 (by omega)] at key
      have e0 : zu2 (zu2 I 3 T c) 5 T n = rowU (rowU (rowU I 3 (up1 (I 3) T c)) 5 (up1 (I 5) T n)) 6 (I 6) := by
        have := rowU_id (rowU (rowU I 3 (up1 (I 3) T c)) 5 (up1 (I 5) T n)) 6
        rw [rowU_ne (by decide), rowU_ne (by decide)] at this
        rw [this, zu2_row, zu2_row, rowU_ne (b := 5) (by decide)]
      rw [e0, key, b13_28, if_pos (Int.le_refl _), ← hI1]
    · intro k k0 k1
      rw [b13_28, if_neg (by omega), b13_31 L (by omega) (by omega) hb (by omega) (by omega) (by omega), zu2_row, rowU_tw, rowU_eq]
      have eb : rowU (rowU (rowU I 3 (up1 (I 3) T c)) 5 (up1 (I 5) T n)) 6 (fillR (I 6) (T * 12) (T * 12 + k) (fun j => J 99 (j - T * 12))) b k = J 99 k := by
        rw [rowU_ne (by omega), rowU_ne (by omega), rowU_ne (by omega)]
        exact hE k k0 (by omega)
      rw [eb, fillR_s (by omega) (by rw [show T * 12 + k - T * 12 = k by omega]), Int.add_assoc]
  have I1e : ∀ a, a ≠ 3 → a ≠ 5 → a ≠ 6 → I1 a = I a := fun a q1 q2 q3 => by rw [hI1, rowU_ne q3, rowU_ne q2, rowU_ne q1]
  have I13 : I1 3 = up1 (I 3) T c := by rw [hI1, rowU_ne (by decide), rowU_ne (by decide), rowU_eq]
  have I15 : I1 5 = up1 (I 5) T n := by rw [hI1, rowU_ne (by decide), rowU_eq]
  have I16 : I1 6 = fillR (I 6) (T * 12) (T * 12 + n) (fun j => J 99 (j - T * 12)) := by rw [hI1, rowU_eq]
  have b6 : ∀ o j, o < T → j < 12 → I1 6 (o * 12 + j) = I 6 (o * 12 + j) := fun o j q r => by rw [I16]; exact fillR_out (by omega)
  have B1 : BC I1 J := by
    refine ⟨by rw [I1e 2 (by decide) (by decide) (by decide)]; exact B.1, fun o o0 o1 => ?_, by rw [I1e 9 (by decide) (by decide) (by decide)]; exact B.2.2⟩
    have bb := B.2.1 o o0 o1
    have hz := (R.1.2 o o0 o1).1.2.2.2.1
    refine ⟨⟨?_, ?_, ?_, ?_⟩, fun j j0 j1 => ?_, fun k k0 k1 => ?_⟩
    · rw [I13, up1_ne (by omega)]; exact bb.1.1
    · rw [I1e 4 (by decide) (by decide) (by decide)]; exact bb.1.2.1
    · rw [I15, up1_ne (by omega)]; exact bb.1.2.2.1
    · rw [I1e 8 (by decide) (by decide) (by decide)]; exact bb.1.2.2.2
    · rw [b6 o j (by omega) (by omega)]; exact bb.2.1 j j0 j1
    · rw [I1e 7 (by decide) (by decide) (by decide)]; exact bb.2.2 k k0 k1
  have I1n : ∀ j, 0 ≤ j → j < J 94 5 → I1 6 (T * 12 + j) = J 99 j := fun j j0 j1 => by
    rw [I16, fillR_in (by omega), show T * 12 + j - T * 12 = j by omega]
  obtain ⟨f7, f8, e15, q8, q7, q8T, q7T⟩ := k15 (h := h) (I := I1) (J := J) (c := c) (v2 := vU) L B1 R N (by omega) (by rw [← hTT, I13, up1_eq]) (by rw [← hTT, I15, up1_eq, hn]) (by rw [← hTT]; exact I1n)
  rw [← hTT] at e15 q8 q7 q8T q7T
  obtain ⟨I2, hI2⟩ : ∃ I2, I2 = rowU (rowU I1 7 f7) 8 f8 := ⟨_, rfl⟩
  rw [← hI2] at e15
  have I2e : ∀ a, a ≠ 7 → a ≠ 8 → I2 a = I1 a := fun a p q => by rw [hI2, rowU_ne q, rowU_ne p]
  have I27r : I2 7 = f7 := by rw [hI2, rowU_ne (by decide), rowU_eq]
  have I28r : I2 8 = f8 := by rw [hI2, rowU_eq]
  have B2 : BC I2 J := by
    refine ⟨by rw [I2e 2 (by decide) (by decide)]; exact B1.1, fun o o0 o1 => ?_, by rw [I2e 9 (by decide) (by decide)]; exact B1.2.2⟩
    have bb := B1.2.1 o o0 o1
    have hl := nL_b R.1 o0 o1
    refine ⟨⟨?_, ?_, ?_, ?_⟩, fun j j0 j1 => ?_, fun k k0 k1 => ?_⟩
    · rw [I2e 3 (by decide) (by decide)]; exact bb.1.1
    · rw [I2e 4 (by decide) (by decide)]; exact bb.1.2.1
    · rw [I2e 5 (by decide) (by decide)]; exact bb.1.2.2.1
    · rw [I28r, q8 o (by omega)]; exact bb.1.2.2.2
    · rw [I2e 6 (by decide) (by decide)]; exact bb.2.1 j j0 j1
    · rw [I27r, q7 _ (by omega)]; exact bb.2.2 k k0 k1
  have hE2 : BE I2 J b := fun j j0 j1 => by
    rw [I2e b (by omega) (by omega), I1e b (by omega) (by omega) (by omega)]
    exact hE j j0 j1
  obtain ⟨I3, hI3⟩ : ∃ I3, I3 = zu2 (zu2 I2 4 T (nN J c)) 2 7 (T + 1) := ⟨_, rfl⟩
  have I34 : I3 4 = up1 (I 4) T (nN J c) := by rw [hI3, zu2_row, rowU_ne (by decide), zu2_row, rowU_eq, I2e 4 (by decide) (by decide), I1e 4 (by decide) (by decide) (by decide)]
  have I32 : I3 2 = up1 (I 2) 7 (T + 1) := by rw [hI3, zu2_row, rowU_eq, zu2_row, rowU_ne (by decide), I2e 2 (by decide) (by decide), I1e 2 (by decide) (by decide) (by decide)]
  have I3e : ∀ a, a ≠ 4 → a ≠ 2 → I3 a = I2 a := fun a p q => by rw [hI3, zu2_row, rowU_ne q, zu2_row, rowU_ne p]
  obtain ⟨f9, e18, q9⟩ := k18 (h := h) (I := I3) (J := J) (c := c) (v2 := vU) L R N (by omega) (by rw [I32, up1_eq, ← hTT]) (fun o o0 o1 => by
    rw [I34, nB_98, ← hTT]
    by_cases ho : o = T
    · subst ho; rw [up1_eq, up1_eq]
    · rw [up1_ne ho, up1_ne ho]; exact (B.2.1 o o0 (by omega)).1.2.1) (by rw [I3e 9 (by decide) (by decide), I2e 9 (by decide) (by decide), I1e 9 (by decide) (by decide) (by decide)]; exact B.2.2)
  rw [← hTT] at e18
  have e27 : zu2 I2 4 T (nN J c) 2 7 = T := by rw [zu2_row, rowU_ne (by decide), I2e 2 (by decide) (by decide), I1e 2 (by decide) (by decide) (by decide), I27]
  refine ⟨rowU I3 9 f9, ?_, fun a ha => ?_, fun k hk => ?_, ?_⟩
  · rw [h44, b13_44 L, e15, caln_v, b13_47 L, k14 L B2 R hb hn hE2 N, caln_r, b13_55 L (by omega) (by rw [e27]; omega), e27, ← hI3, e18, caln_v, b13_65]
  · rw [rowU_ne (by omega), I3e a (by omega) (by omega), I2e a (by omega) (by omega), I1e a (by omega) (by omega) (by omega)]
  · rw [rowU_ne (by decide), I32, up1_ne hk]
  · refine ⟨by rw [rowU_ne (by decide), I32, up1_eq, nB_940, hTT], fun o o0 o1 => ?_, by rw [rowU_eq]; exact q9⟩
    rw [nB_940, ← hTT] at o1
    by_cases ho : o = T
    · subst ho
      have e96 : nB J c 96 o = J 94 5 := by rw [nB_96, hTT, up1_eq]
      refine ⟨⟨?_, ?_, ?_, ?_⟩, fun j j0 j1 => ?_, fun k k0 k1 => ?_⟩
      · rw [rowU_ne (by decide), I3e 3 (by decide) (by decide), I2e 3 (by decide) (by decide), I13, up1_eq, nB_95, hTT, up1_eq]
      · rw [rowU_ne (by decide), I34, up1_eq, nB_98, hTT, up1_eq]
      · rw [rowU_ne (by decide), I3e 5 (by decide) (by decide), I2e 5 (by decide) (by decide), I15, up1_eq, e96, hn]
      · rw [rowU_ne (by decide), I3e 8 (by decide) (by decide), I28r, q8T]
      · rw [e96] at j1
        rw [rowU_ne (by decide), I3e 6 (by decide) (by decide), I2e 6 (by decide) (by decide), I1n j j0 j1, hTT, b97_nBn j0 j1]
      · have hl := lkP_l (WB_nB R N (by omega)) (o := o) (k := k) (by omega) (by rw [nB_940]; omega) ⟨k0, k1⟩
        have hl2 : (0 ≤ lkP (nB J c) o k ∧ lkP (nB J c) o k < J 94 5) ∧ ((c = 1 ∧ lkP (nB J c) o k % 2 = 1) ∨ (c = 2 ∧ lkP (nB J c) o k ≠ 1) ∨ (c = 3 ∧ lkP (nB J c) o k = 0)) := by
          unfold Lk at hl
          rw [e96, nB_95, hTT, up1_eq] at hl
          rw [hTT]
          exact ⟨⟨hl.1, hl.2.1⟩, hl.2.2⟩
        have hf := N.2.2.2.2 _ hl2.1.1 hl2.1.2 hl2.2
        rw [rowU_ne (by decide), I3e 7 (by decide) (by decide), I27r, q7T k k0 k1]
        unfold lkR
        rw [hTT] at hl2 hf ⊢
        rw [atR_nBn R N (by omega) hl2.1 hf]
    · have o1' : o < J 94 0 := by omega
      have bb := B2.2.1 o o0 o1'
      have hz := (R.1.2 o o0 o1').1.2.2.2.1
      refine ⟨⟨?_, ?_, ?_, ?_⟩, fun j j0 j1 => ?_, fun k k0 k1 => ?_⟩
      · rw [rowU_ne (by decide), I3e 3 (by decide) (by decide), bb.1.1, nB_95, up1_ne (by omega)]
      · rw [rowU_ne (by decide), I34, up1_ne ho, nB_98, up1_ne (by omega)]; exact (B.2.1 o o0 o1').1.2.1
      · rw [rowU_ne (by decide), I3e 5 (by decide) (by decide), bb.1.2.2.1, nB_96, up1_ne (by omega)]
      · rw [rowU_ne (by decide), I3e 8 (by decide) (by decide), bb.1.2.2.2, nL_nB o1']
      · rw [nB_96, up1_ne (by omega)] at j1
        rw [rowU_ne (by decide), I3e 6 (by decide) (by decide), bb.2.1 j j0 j1, b97_nB o1' (by omega)]
      · rw [nL_nB o1'] at k1
        rw [rowU_ne (by decide), I3e 7 (by decide) (by decide), bb.2.2 k k0 k1, lkR_nB R N (by omega) o0 o1' ⟨k0, k1⟩]
