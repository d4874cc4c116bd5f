/-! ===== the reference's methods (32): what a store has, the note of a fetch ===== -/
def Hd (I : Nat → Int → Int) (s j : Int) : Prop := Cl (Eg I s) (Rf I s) j ∧ Th I s j
theorem r263 {h : HP} {I : Nat → Int → Int} {s : Int} {v2 : MV} (L : LX 11 h 94) (W : WB I) (K : WK I) (Z : Z133 I) (Z5 : ∃ P, S3 P ∧ I 135 = ind P) (R : WR I) (hs : s = 0 ∨ s = 1) :
    Go 263 0 [.inr (.inl (some 94)), .inl s, v2] [] (mI h I) = some (mI h (rowU (rowU I 133 (ind (Cl (Eg I s) (Rf I s)))) 135 (ind (Hd I s))), .inl none) := by
  have hT := W.1
  obtain ⟨P, hP, eP⟩ := Z5
  have hC : ∀ j, Cl (Eg I s) (Rf I s) j → 0 ≤ j ∧ j < I 94 0 := fun j q => Cl_lt W (fun j ⟨k, a, b, c, d⟩ => by have := R k (by omega) (by omega); omega) j q
  rw [b263_0 L, r175 L W Z R hs, caln_v, b263_3]
  obtain ⟨C, eC⟩ : ∃ C, C = Cl (Eg I s) (Rf I s) := ⟨_, rfl⟩
  have hHd : ∀ j, Hd I s j ↔ (C j ∧ Th I s j) := fun j => by rw [eC]; exact Iff.rfl
  rw [← eC] at hC ⊢
  have key := lpU (fun k => Go 263 5 [.inr (.inl (some 94)), .inl s, .inl k] [] (mI h (rowU (rowU I 133 (ind C)) 135 (fillR (I 135) 0 k (ind (Hd I s)))))) 0 120 (by omega) ?_
  · rw [fillR_0 (by omega), show rowU (rowU I 133 (ind C)) 135 (I 135) = rowU I 133 (ind C) by
      have := rowU_id (rowU I 133 (ind C)) 135
      rwa [rowU_ne (by decide)] at this] at key
    rw [key, b263_5, if_pos (by decide), b263_27, eP, fillR_ind hP (fun j q => by have := hC j ((hHd j).mp q).1; omega)]
  · intro k k0 k1
    have K2 : ∀ f : Int → Int, WK (rowU (rowU I 133 (ind C)) 135 f) := fun f => by rw [WK_U (by decide), WK_U (by decide)]; exact K
    have T2 : ∀ f : Int → Int, Th (rowU (rowU I 133 (ind C)) 135 f) = Th I := fun f => by rw [Th_U (by decide), Th_U (by decide)]
    rw [b263_5, if_neg (by omega), b263_8 L (by omega)]
    have e3 : ∀ f : Int → Int, rowU (rowU I 133 (ind C)) 135 f 133 = ind C := fun f => by rw [rowU_ne (by decide), rowU_eq]
    rw [e3]
    by_cases q1 : C k
    · rw [if_neg (by rw [ind_at]; exact fun q => q q1), b263_16 L, r179 L (K2 _) hs (by omega), T2, caln_r, b263_20]
      by_cases q2 : Th I s k
      · rw [b01_t q2, if_neg neg1_ne, b263_21, b263_24 L (by omega) (Or.inr rfl) (by omega), zu2_row, rowU_tw, rowU_eq, fillR_s k0 (b01_t ((hHd k).mpr ⟨q1, q2⟩)).symm]
      · rw [b01_f q2, if_pos rfl, b263_23, b263_24 L (by omega) (Or.inl rfl) (by omega), zu2_row, rowU_tw, rowU_eq, fillR_s k0 (b01_f (fun q => q2 ((hHd k).mp q).2)).symm]
    · rw [if_pos (by rw [ind_at]; exact q1), b263_23, b263_24 L (by omega) (Or.inl rfl) (by omega), zu2_row, rowU_tw, rowU_eq, fillR_s k0 (b01_f (fun q => q1 ((hHd k).mp q).1)).symm]
/-- a version whose parents are not all wanted or had -/
def En (I : Nat → Int → Int) (k : Int) : Prop := ∃ b, Sb I k (I 96 k) b ∧ I 134 b = 0 ∧ I 135 b = 0
noncomputable def g6 (B : Nat → Int → Int) (a j : Int) : Int := @ite _ (B 134 (j - a) ≠ 0 ∧ B 95 (j - a) = 2) (Classical.propDecidable _) (b01 (En B (j - a))) (B 116 j)
def P7 (B : Nat → Int → Int) (t k : Int) : Prop := B 117 (120 * t + k) ≠ 0 ∨ (B 134 k ≠ 0 ∧ B 95 k = 0 ∧ B 137 k = 0 ∧ ¬Th B t k)
noncomputable def n6 (B : Nat → Int → Int) (t n : Int) : Int → Int := fillR (B 116) (120 * t) (120 * t + n) (g6 B (120 * t))
noncomputable def n7 (B : Nat → Int → Int) (t n : Int) : Int → Int := fillR (B 117) (120 * t) (120 * t + n) (fun j => b01 (P7 B t (j - 120 * t)))
def nT (B : Nat → Int → Int) (t n : Int) : Prop := ∃ k, (0 ≤ k ∧ k < n) ∧ B 134 k ≠ 0 ∧ B 95 k = 2 ∧ B 116 (120 * t + k) ≠ b01 (En B k)
noncomputable def nK (B : Nat → Int → Int) (t : Int) : Nat → Int → Int := kN (rowU (rowU B 116 (n6 B t (B 94 0))) 117 (n7 B t (B 94 0))) t (B 104 t)
noncomputable def nE (B : Nat → Int → Int) (t : Int) : Nat → Int → Int := @ite _ (nT B t (B 94 0)) (Classical.propDecidable _) (rowU (nK B t) 128 (fillR (B 128) (120 * t) (120 * t + 120) (fun _ => 0))) (nK B t)
theorem fillR_k {f g : Int → Int} {a b : Int} (h : g b = f b) : fillR f a (b + 1) g = fillR f a b g := by
  funext j
  unfold fillR
  by_cases hj : j = b
  · subst hj
    rw [if_neg (show ¬(a ≤ j ∧ j < j) by omega)]
    split
    · exact h
    · rfl
  · by_cases hl : a ≤ j ∧ j < b
    · rw [if_pos hl, if_pos (by omega)]
    · rw [if_neg hl, if_neg (by omega)]
theorem r264a {h : HP} {B : Nat → Int → Int} {x1 t x3 x4 : Int} {v7 v8 v9 v10 : MV} (L : LX 11 h 94) (W : WB B) (K : WK B) (hb7 : ∀ j, B 117 j = 0 ∨ B 117 j = 1) (ht : t = 0 ∨ t = 1) :
    ∃ w7 w8 w9 w10, Go 264 25 [.inr (.inl (some 94)), .inl x1, .inl t, .inl x3, .inl x4, .inl 0, .inl 0, v7, v8, v9, v10] [] (mI h B) = Go 264 128 [.inr (.inl (some 94)), .inl x1, .inl t, .inl x3, .inl x4, .inl (b01 (nT B t (B 94 0))), .inl (B 94 0), w7, w8, w9, w10] [] (mI h (rowU (rowU B 116 (n6 B t (B 94 0))) 117 (n7 B t (B 94 0)))) := by
  have htt := WB_t W
  have hT := W.1
  have key := lpE (fun k (v : MV × MV × MV × MV) => Go 264 25 [.inr (.inl (some 94)), .inl x1, .inl t, .inl x3, .inl x4, .inl (b01 (nT B t k)), .inl k, v.1, v.2.1, v.2.2.1, v.2.2.2] [] (mI h (rowU (rowU B 116 (n6 B t k)) 117 (n7 B t k)))) (fun _ _ => True) 0 (B 94 0) htt.1 ?_ (v7, v8, v9, v10) trivial
  · obtain ⟨⟨w7, w8, w9, w10⟩, e, -⟩ := key
    refine ⟨w7, w8, w9, w10, ?_⟩
    rw [b01_f (show ¬nT B t 0 from fun ⟨k, hk, _⟩ => by omega)] at e
    unfold n6 n7 at e ⊢
    rw [fillR_0 (by omega), fillR_0 (by omega), show rowU (rowU B 116 (B 116)) 117 (B 117) = B by rw [rowU_id, rowU_id]] at e
    rw [e, b264_25 L]
    simp only [rowU, Nat.reduceEqDiff, ↓reduceIte]
    rw [if_pos (Int.le_refl _)]
  · rintro k ⟨u7, u8, u9, u10⟩ k0 k1 -
    dsimp only
    obtain ⟨p, hp⟩ : ∃ p, p = n6 B t k := ⟨_, rfl⟩
    obtain ⟨q, hq⟩ : ∃ q, q = n7 B t k := ⟨_, rfl⟩
    rw [← hp, ← hq]
    have pk : p (120 * t + k) = B 116 (120 * t + k) := by rw [hp]; exact fillR_out (by omega)
    have qk : q (120 * t + k) = B 117 (120 * t + k) := by rw [hq]; exact fillR_out (by omega)
    have p1 : ∀ v, v = g6 B (120 * t) (120 * t + k) → up1 p (120 * t + k) v = n6 B t (k + 1) := fun v hv => by
      rw [hp]
      unfold n6
      rw [fillR_s (by omega) hv, Int.add_assoc]
    have q1 : ∀ v, v = b01 (P7 B t k) → up1 q (120 * t + k) v = n7 B t (k + 1) := fun v hv => by
      rw [hq]
      unfold n7
      rw [fillR_s (by omega) (by rw [hv, show 120 * t + k - 120 * t = k by omega]), Int.add_assoc]
    have e6 : g6 B (120 * t) (120 * t + k) = @ite _ (B 134 k ≠ 0 ∧ B 95 k = 2) (Classical.propDecidable _) (b01 (En B k)) (B 116 (120 * t + k)) := by
      unfold g6
      rw [show 120 * t + k - 120 * t = k by omega]
    have nTs : nT B t (k + 1) ↔ nT B t k ∨ (B 134 k ≠ 0 ∧ B 95 k = 2 ∧ B 116 (120 * t + k) ≠ b01 (En B k)) := by
      constructor
      · rintro ⟨i, hi, c⟩
        by_cases hik : i = k
        · subst hik; exact Or.inr c
        · exact Or.inl ⟨i, by omega, c⟩
      · rintro (⟨i, hi, c⟩ | c)
        · exact ⟨i, by omega, c⟩
        · exact ⟨k, by omega, c⟩
    have h7 := hb7 (120 * t + k)
    have fin : ∀ (x5 : Int) (p' : Int → Int) (y8 y9 y10 : MV), x5 = b01 (nT B t (k + 1)) → p' = n6 B t (k + 1) → ∃ w7 w8 w9 w10, Go 264 96 [.inr (.inl (some 94)), .inl x1, .inl t, .inl x3, .inl x4, .inl x5, .inl k, .inl (120 * t + k), y8, y9, y10] [] (mI h (rowU (rowU B 116 p') 117 q)) = Go 264 25 [.inr (.inl (some 94)), .inl x1, .inl t, .inl x3, .inl x4, .inl (b01 (nT B t (k + 1))), .inl (k + 1), w7, w8, w9, w10] [] (mI h (rowU (rowU B 116 (n6 B t (k + 1))) 117 (n7 B t (k + 1)))) := by
      intro x5 p' y8 y9 y10 hx hp'
      refine ⟨.inl (120 * t + k), y8, y9, y10, ?_⟩
      rw [hx, hp']
      have K2 : WK (rowU (rowU B 116 (n6 B t (k + 1))) 117 q) := by rw [WK_U (by decide), WK_U (by decide)]; exact K
      have T2 : Th (rowU (rowU B 116 (n6 B t (k + 1))) 117 q) = Th B := by rw [Th_U (by decide), Th_U (by decide)]
      have last : ∀ (v : Int) (c : Prop), v = b01 c → (P7 B t k ↔ B 117 (120 * t + k) = 1 ∨ c) → Go 264 124 [.inr (.inl (some 94)), .inl x1, .inl t, .inl x3, .inl x4, .inl (b01 (nT B t (k + 1))), .inl k, .inl (120 * t + k), y8, y9, y10] [.inl v, .inl (q (120 * t + k)), .inl (120 * t + k), .inr (.inl (some 117))] (mI h (rowU (rowU B 116 (n6 B t (k + 1))) 117 q)) = Go 264 25 [.inr (.inl (some 94)), .inl x1, .inl t, .inl x3, .inl x4, .inl (b01 (nT B t (k + 1))), .inl (k + 1), .inl (120 * t + k), y8, y9, y10] [] (mI h (rowU (rowU B 116 (n6 B t (k + 1))) 117 (n7 B t (k + 1)))) := by
        intro v c hv hc
        have ez : zor (q (120 * t + k)) v = b01 (P7 B t k) := by
          rw [qk, hv, b01_x h7, zor_b]
          exact b01_c hc.symm
        rw [b264_124 L (by omega) (by rw [ez]; exact b01_or _) (by omega), ez, zu2_row, rowU_tw, rowU_eq, q1 _ rfl]
      have no : ¬(B 134 k ≠ 0 ∧ B 95 k = 0 ∧ B 137 k = 0 ∧ ¬Th B t k) → Go 264 123 [.inr (.inl (some 94)), .inl x1, .inl t, .inl x3, .inl x4, .inl (b01 (nT B t (k + 1))), .inl k, .inl (120 * t + k), y8, y9, y10] [.inl (q (120 * t + k)), .inl (120 * t + k), .inr (.inl (some 117))] (mI h (rowU (rowU B 116 (n6 B t (k + 1))) 117 q)) = Go 264 25 [.inr (.inl (some 94)), .inl x1, .inl t, .inl x3, .inl x4, .inl (b01 (nT B t (k + 1))), .inl (k + 1), .inl (120 * t + k), y8, y9, y10] [] (mI h (rowU (rowU B 116 (n6 B t (k + 1))) 117 (n7 B t (k + 1)))) := by
        intro hn
        rw [b264_123, last 0 False (b01_f (fun q => q)).symm]
        unfold P7
        exact ⟨fun c => c.elim (fun c => Or.inl (h7.resolve_left c)) (fun c => absurd c hn), fun c => c.elim (fun c => Or.inl (by omega)) False.elim⟩
      rw [b264_96 L (by omega) (by omega)]
      simp only [rowU, Nat.reduceEqDiff, ↓reduceIte]
      by_cases c1 : B 134 k = 0
      · rw [if_pos c1, no (fun c => c.1 c1)]
      · rw [if_neg c1, b264_106 L (by omega)]
        simp only [rowU, Nat.reduceEqDiff, ↓reduceIte]
        by_cases c2 : B 95 k = 0
        · rw [if_neg (fun c => c c2), b264_111 L (by omega)]
          simp only [rowU, Nat.reduceEqDiff, ↓reduceIte]
          by_cases c3 : B 137 k = 0
          · rw [if_neg (fun c => c c3), b264_116 L, r179 L K2 ht (by omega), T2, caln_r, b264_120]
            by_cases c4 : Th B t k
            · rw [b01_t c4, if_pos neg1_ne, no (fun c => c.2.2.2 c4)]
            · rw [b01_f c4, if_neg (fun c => c rfl), b264_121, last 1 True (b01_t trivial).symm]
              exact ⟨fun _ => Or.inr trivial, fun _ => Or.inr ⟨c1, c2, c3, c4⟩⟩
          · rw [if_pos c3, no (fun c => c3 c.2.2.1)]
        · rw [if_pos c2, no (fun c => c2 c.2.1)]
    have p0 : ¬(B 134 k ≠ 0 ∧ B 95 k = 2) → p = n6 B t (k + 1) := by
      intro hn
      rw [hp]
      unfold n6
      rw [← Int.add_assoc, fillR_k]
      rw [e6, if_neg hn]
    have nx : ∃ w7 w8 w9 w10, Go 264 25 [.inr (.inl (some 94)), .inl x1, .inl t, .inl x3, .inl x4, .inl (b01 (nT B t k)), .inl k, u7, u8, u9, u10] [] (mI h (rowU (rowU B 116 p) 117 q)) = Go 264 25 [.inr (.inl (some 94)), .inl x1, .inl t, .inl x3, .inl x4, .inl (b01 (nT B t (k + 1))), .inl (k + 1), w7, w8, w9, w10] [] (mI h (rowU (rowU B 116 (n6 B t (k + 1))) 117 (n7 B t (k + 1)))) := by
      have nn : ¬(B 134 k ≠ 0 ∧ B 95 k = 2) → b01 (nT B t k) = b01 (nT B t (k + 1)) := fun hn => b01_c ⟨fun c => nTs.mpr (Or.inl c), fun c => (nTs.mp c).resolve_right (fun c => hn ⟨c.1, c.2.1⟩)⟩
      rw [b264_25 L]
      simp only [rowU, Nat.reduceEqDiff, ↓reduceIte]
      rw [if_neg (by omega), b264_29 (by omega) (by omega) L (by omega)]
      simp only [rowU, Nat.reduceEqDiff, ↓reduceIte]
      by_cases c1 : B 134 k = 0
      · have hn : ¬(B 134 k ≠ 0 ∧ B 95 k = 2) := fun c => c.1 c1
        rw [if_pos c1]
        exact fin _ _ _ _ _ (nn hn) (p0 hn)
      · rw [if_neg c1, b264_40 L (by omega)]
        simp only [rowU, Nat.reduceEqDiff, ↓reduceIte]
        by_cases c2 : B 95 k = 2
        · have hv : Vs B k := ⟨⟨k0, k1⟩, c2⟩
          have hsz := (W.2 k k0 k1).1.2.2.2.2.2.1 c2
          have hh := W.2 k k0 k1
          rw [if_neg (fun c => c c2), b264_46]
          have eat : atR (rowU (rowU B 116 p) 117 q) = atR B := by rw [atR_U (by decide), atR_U (by decide)]
          have key2 := lpE (fun m (x : Prop × MV) => Go 264 50 [.inr (.inl (some 94)), .inl x1, .inl t, .inl x3, .inl x4, .inl (b01 (nT B t k)), .inl k, .inl (120 * t + k), .inl (b01 x.1), .inl m, x.2] [] (mI h (rowU (rowU B 116 p) 117 q))) (fun m x => x.1 = ∃ b, Sb B k m b ∧ B 134 b = 0 ∧ B 135 b = 0) 2 (B 96 k) hsz.1 ?_ (False, u10) (propext ⟨False.elim, fun ⟨b, ⟨i, a, a2, _⟩, _⟩ => by omega⟩)
          · obtain ⟨⟨en, w10⟩, e, hen⟩ := key2
            dsimp only at e hen
            replace hen : en = En B k := hen
            rw [b01_f (fun c => c)] at e
            have e2 : @ite _ (B 134 k ≠ 0 ∧ B 95 k = 2) (Classical.propDecidable _) (b01 (En B k)) (B 116 (120 * t + k)) = b01 (En B k) := if_pos ⟨c1, c2⟩
            rw [e, b264_50 L (by omega)]
            simp only [rowU, Nat.reduceEqDiff, ↓reduceIte]
            rw [if_pos (Int.le_refl _), b264_79 L (by omega)]
            simp only [rowU, Nat.reduceEqDiff, ↓reduceIte]
            rw [pk, hen]
            have z6 : zu2 (rowU (rowU B 116 p) 117 q) 116 (120 * t + k) (b01 (En B k)) = rowU (rowU B 116 (n6 B t (k + 1))) 117 q := by
              rw [zu2_row, rowU_ne (by decide), rowU_eq, rowU_cm (a := 117) (b := 116) (by decide), rowU_tw, p1 _ (by rw [e6, e2])]
            by_cases c3 : B 116 (120 * t + k) = b01 (En B k)
            · rw [if_pos c3, b264_88, b264_89 L (by omega) (b01_or _), zor_0, z6]
              exact fin _ _ _ _ _ (b01_c ⟨fun c => nTs.mpr (Or.inl c), fun c => (nTs.mp c).resolve_right (fun c => c.2.2 c3)⟩) rfl
            · rw [if_neg c3, b264_86, b264_89 L (by omega) (b01_or _), zor_1, z6]
              exact fin _ _ _ _ _ (b01_t (nTs.mpr (Or.inr ⟨c1, c2, c3⟩))).symm rfl
          · rintro m ⟨en, w⟩ m0 m1 hen
            dsimp only at hen ⊢
            have hat := (W.2 k k0 k1).2 m ⟨by omega, m1, Or.inr (Or.inl ⟨c2, by omega⟩)⟩
            have hst : ∀ c : Prop, (c ↔ (B 134 (atR B k m) = 0 ∧ B 135 (atR B k m) = 0)) → (en ∨ c) = ∃ b, Sb B k (m + 1) b ∧ B 134 b = 0 ∧ B 135 b = 0 := by
              intro c hc
              rw [hen]
              apply propext
              constructor
              · rintro (⟨b, sb, hb⟩ | q)
                · exact ⟨b, (Sb_s m0 b).mpr (Or.inl sb), hb⟩
                · exact ⟨_, (Sb_s m0 _).mpr (Or.inr rfl), hc.mp q⟩
              · rintro ⟨b, sb, hb⟩
                obtain sb | sb := (Sb_s m0 b).mp sb
                · exact Or.inl ⟨b, sb, hb⟩
                · exact Or.inr (hc.mpr (sb ▸ hb))
            have no : ∀ w2 : MV, ¬(B 134 (atR B k m) = 0 ∧ B 135 (atR B k m) = 0) → ∃ x1_1 : Prop × MV, Go 264 74 [.inr (.inl (some 94)), .inl x1, .inl t, .inl x3, .inl x4, .inl (b01 (nT B t k)), .inl k, .inl (120 * t + k), .inl (b01 en), .inl m, .inl (atR B k m)] [.inl (b01 en)] (mI h (rowU (rowU B 116 p) 117 q)) = Go 264 50 [.inr (.inl (some 94)), .inl x1, .inl t, .inl x3, .inl x4, .inl (b01 (nT B t k)), .inl k, .inl (120 * t + k), .inl (b01 x1_1.1), .inl (m + 1), x1_1.2] [] (mI h (rowU (rowU B 116 p) 117 q)) ∧ x1_1.1 = ∃ b, Sb B k (m + 1) b ∧ B 134 b = 0 ∧ B 135 b = 0 := by
              intro _ hn
              refine ⟨(en ∨ False, .inl (atR B k m)), ?_, hst False ⟨False.elim, hn⟩⟩
              rw [b264_74, b264_75 (by omega), zor_0]
              dsimp only
              rw [or_false]
            rw [b264_50 L (by omega)]
            simp only [rowU, Nat.reduceEqDiff, ↓reduceIte]
            rw [if_neg (by omega), b264_56 L, r169 L (by simp only [rowU, Nat.reduceEqDiff, ↓reduceIte]; exact htt) (by omega) (by omega), eat, caln_r, b264_60 L (by omega)]
            simp only [rowU, Nat.reduceEqDiff, ↓reduceIte]
            by_cases d1 : B 134 (atR B k m) = 0
            · rw [if_neg (fun c => c d1), b264_67 L (by omega)]
              simp only [rowU, Nat.reduceEqDiff, ↓reduceIte]
              by_cases d2 : B 135 (atR B k m) = 0
              · refine ⟨(en ∨ True, .inl (atR B k m)), ?_, hst True ⟨fun _ => ⟨d1, d2⟩, fun _ => trivial⟩⟩
                rw [if_neg (fun c => c d2), b264_72, b264_75 (by omega), zor_1, b01_t (p := en ∨ True) (Or.inr trivial)]
              · rw [if_pos d2]
                exact no w (fun c => d2 c.2)
            · rw [if_pos d1]
              exact no w (fun c => d1 c.1)
        · have hn : ¬(B 134 k ≠ 0 ∧ B 95 k = 2) := fun c => c2 c.2
          rw [if_pos c2]
          exact fin _ _ _ _ _ (nn hn) (p0 hn)
    obtain ⟨w7, w8, w9, w10, e⟩ := nx
    exact ⟨(w7, w8, w9, w10), e, trivial⟩
