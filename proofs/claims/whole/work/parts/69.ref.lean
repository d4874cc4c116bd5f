/-! ===== the reference's methods (20): generations, who is ahead ===== -/
theorem r229 {h : HP} {I : Nat → Int → Int} {P : Int → Prop} {s : Int} {v2 v3 v4 v5 v6 : MV} (L : LX 11 h 94) (W : WB I) (N : WN I) (V : WV I) (A : AC I) (hs : s = 0 ∨ s = 1) (hP : ∀ j, P j → Vs I j) (hcl : ∀ a b, P a → Es I s 0 a b → P b) :
    ∃ f, Gn (Es I s 0) P f ∧ Go 229 0 [.inr (.inl (some 94)), .inl s, v2, v3, v4, v5, v6] [] (mI h (rowU I 133 (ind P))) = some (mI h (rowU (rowU I 133 (ind P)) 138 f), .inl none) := by
  have ht := WB_t W
  have hT := W.1
  obtain ⟨ρ, hρ0, hρ1, hρ⟩ := AC_b A W N V hs
  rw [b229_0]
  have key1 := lpU (fun k => Go 229 2 [.inr (.inl (some 94)), .inl s, .inl k, v3, v4, v5, v6] [] (mI h (rowU (rowU I 133 (ind P)) 138 (fillR (I 138) 0 k (fun _ => 1))))) 0 (I 94 0) ht.1 ?_
  rotate_left
  · intro k h0 h1
    rw [b229_2 L]
    simp only [rowU, Nat.reduceEqDiff, ↓reduceIte]
    rw [if_neg (by omega), b229_6 L (by omega) (by omega), zu2_row, rowU_tw, rowU_eq, fillR_s h0 rfl]
  rw [fillR_0 (by omega), show rowU (rowU I 133 (ind P)) 138 (I 138) = rowU I 133 (ind P) by
    have := rowU_id (rowU I 133 (ind P)) 138
    rwa [rowU_ne (by decide)] at this] at key1
  have h15 : Go 229 2 [.inr (.inl (some 94)), .inl s, .inl 0, v3, v4, v5, v6] [] (mI h (rowU I 133 (ind P))) = Go 229 15 [.inr (.inl (some 94)), .inl s, .inl 1, v3, v4, v5, v6] [] (mI h (rowU (rowU I 133 (ind P)) 138 (fillR (I 138) 0 (I 94 0) (fun _ => 1)))) := by
    rw [key1, b229_2 L]
    simp only [rowU, Nat.reduceEqDiff, ↓reduceIte]
    rw [if_pos (Int.le_refl _), b229_13]
  rw [h15]
  have hF : ∀ j, 0 ≤ j → j < I 94 0 → fillR (I 138) 0 (I 94 0) (fun _ => 1) j = 1 := fun j a b => fillR_in ⟨a, b⟩
  generalize fillR (I 138) 0 (I 94 0) (fun _ => 1) = F at hF
  refine lpW (fun x : (Int → Int) × MV × MV × MV × MV => Go 229 15 [.inr (.inl (some 94)), .inl s, .inl 1, x.2.1, x.2.2.1, x.2.2.2.1, x.2.2.2.2] [] (mI h (rowU (rowU I 133 (ind P)) 138 x.1)))
    (fun x => (∀ j, 0 ≤ j → j < I 94 0 → 1 ≤ x.1 j ∧ (¬P j → x.1 j = 1)) ∧ (∀ k, P k → x.1 k ≤ ρ k + 1) ∧ ∀ k, P k → x.1 k = 1 ∨ ∃ b, Es I s 0 k b ∧ x.1 k ≤ x.1 b + 1)
    (fun r => ∃ f, Gn (Es I s 0) P f ∧ r = some (mI h (rowU (rowU I 133 (ind P)) 138 f), .inl none)) (fun x => smZ (fun j => (1000 - x.1 j).toNat) (I 94 0).toNat) ?_ (F, v3, v4, v5, v6) ⟨fun j a b => ?_, fun k q => ?_, fun k q => Or.inl ?_⟩
  rotate_left
  · dsimp only
    rw [hF j a b]
    exact ⟨Int.le_refl _, fun _ => rfl⟩
  · have w := (hP k q).1
    have := (hρ0 k).1
    dsimp only
    rw [hF k w.1 w.2]
    omega
  · exact hF k (hP k q).1.1 (hP k q).1.2
  rintro ⟨f0, x3, x4, x5, x6⟩ ⟨i1, i2, i3⟩
  dsimp only at i1 i2 i3 ⊢
  have hbd : ∀ f : Int → Int, (∀ j, 0 ≤ j → j < I 94 0 → 1 ≤ f j ∧ (¬P j → f j = 1)) → (∀ k, P k → f k ≤ ρ k + 1) → ∀ j, 0 ≤ j → j < I 94 0 → 1 ≤ f j ∧ f j ≤ 1000 := by
    intro f q1 q2 j a b
    refine ⟨(q1 j a b).1, ?_⟩
    by_cases hp : P j
    · have := q2 j hp
      have := (hρ0 j).2
      omega
    · rw [(q1 j a b).2 hp]; decide
  rw [b229_15, if_neg neg1_ne, b229_17]
  have key := lpE (fun k (x : (Int → Int) × Prop × MV × MV × MV) => Go 229 21 [.inr (.inl (some 94)), .inl s, .inl (b01 x.2.1), .inl k, x.2.2.1, x.2.2.2.1, x.2.2.2.2] [] (mI h (rowU (rowU I 133 (ind P)) 138 x.1)))
    (fun k x => ((∀ j, 0 ≤ j → j < I 94 0 → 1 ≤ x.1 j ∧ (¬P j → x.1 j = 1)) ∧ (∀ k, P k → x.1 k ≤ ρ k + 1) ∧ ∀ k, P k → x.1 k = 1 ∨ ∃ b, Es I s 0 k b ∧ x.1 k ≤ x.1 b + 1) ∧ (∀ j, f0 j ≤ x.1 j) ∧ (x.2.1 → ∃ j, (0 ≤ j ∧ j < I 94 0) ∧ f0 j < x.1 j) ∧ (¬x.2.1 → x.1 = f0 ∧ ∀ a, 0 ≤ a → a < k → P a → ∀ b, Es I s 0 a b → f0 b + 1 ≤ f0 a))
    0 (I 94 0) ht.1 ?_ (f0, False, x4, x5, x6) ⟨⟨i1, i2, i3⟩, fun j => Int.le_refl _, fun q => q.elim, fun _ => ⟨rfl, fun a a0 a1 => by omega⟩⟩
  · obtain ⟨⟨f, g, y4, y5, y6⟩, e, ⟨j1, j2, j3⟩, j4, j5, j6⟩ := key
    dsimp only at e j1 j2 j3 j4 j5 j6
    rw [b01_f (fun q => q)] at e
    rw [e, b229_21 L]
    simp only [rowU, Nat.reduceEqDiff, ↓reduceIte]
    rw [if_pos (Int.le_refl _), b229_101]
    by_cases hg : g
    · right
      rw [b01_t hg]
      refine ⟨(f, .inl (I 94 0), y4, y5, y6), rfl, ⟨j1, j2, j3⟩, ?_⟩
      obtain ⟨j, hj, hlt⟩ := j5 hg
      have hb0 := hbd f0 i1 i2
      have hb1 := hbd f j1 j2
      refine smZ_lt hj.1 ?_ _ (by omega) (fun k a b => ?_)
      · have := hb1 j hj.1 hj.2; dsimp only; omega
      · have := hb1 k a (by omega); have := j4 k; dsimp only; omega
    · left
      obtain ⟨q1, q2⟩ := j6 hg
      subst q1
      refine ⟨f, fun k hk => ?_, ?_⟩
      · have hkl := (hP k hk).1
        refine ⟨(j1 k hkl.1 hkl.2).1, fun b q => q2 k hkl.1 hkl.2 hk b q, ?_⟩
        obtain q | ⟨b, q, r⟩ := j3 k hk
        · exact Or.inl q
        · have := q2 k hkl.1 hkl.2 hk b q
          exact Or.inr ⟨b, q, by omega⟩
      · rw [b01_f hg, b229_15, if_pos rfl, b229_102]
  · rintro k ⟨f, g, y4, y5, y6⟩ k0 k1 ⟨⟨j1, j2, j3⟩, j4, j5, j6⟩
    dsimp only at j1 j2 j3 j4 j5 j6 ⊢
    by_cases hk : P k
    · have hv := hP k hk
      have hne : ∀ b, Es I s 1 k b → b ≠ k := fun b e q => by
        have := hρ k b hv e
        rw [q] at this
        omega
      obtain ⟨v, w4, w5, w6, e, q1, q2, q3⟩ := r229a (h := h) (I := I) (P := P) (f := f) (g := g) (s := s) (k := k) (v4 := y4) (v5 := y5) (v6 := y6) L W N V hs hv hk (hbd f j1 j2) hne
      refine ⟨(up1 f k v, g ∨ f k < v, w4, w5, w6), e, ?_⟩
      dsimp only
      by_cases hlt : f k < v
      · obtain ⟨b, qb, qv⟩ := q3.resolve_left (by omega)
        have hbk := hne b (Es_1 qb)
        have mono : ∀ j, f j ≤ up1 f k v j := fun j => by
          unfold up1
          split
          · next hj => rw [hj]; exact q1
          · exact Int.le_refl _
        refine ⟨⟨fun j a b => ?_, fun j hj => ?_, fun j hj => ?_⟩, fun j => Int.le_trans (j4 j) (mono j), fun _ => ⟨k, ⟨k0, k1⟩, ?_⟩, fun q => absurd (Or.inr hlt) q⟩
        · have := j1 j a b
          refine ⟨Int.le_trans this.1 (mono j), fun np => ?_⟩
          rw [up1_ne (fun q => np (by rw [q]; exact hk))]
          exact this.2 np
        · by_cases hjk : j = k
          · subst hjk
            rw [up1_eq]
            have := j2 b (hcl _ _ hk qb)
            have := hρ j b hv (Es_1 qb)
            omega
          · rw [up1_ne hjk]; exact j2 j hj
        · by_cases hjk : j = k
          · subst hjk
            exact Or.inr ⟨b, qb, by rw [up1_eq, up1_ne hbk]; omega⟩
          · rw [up1_ne hjk]
            obtain q | ⟨c, q, r⟩ := j3 j hj
            · exact Or.inl q
            · exact Or.inr ⟨c, q, by have := mono c; omega⟩
        · rw [up1_eq]
          have := j4 k
          omega
      · have hv2 : v = f k := by omega
        rw [hv2, up1_id rfl]
        have hg2 : (g ∨ f k < f k) = g := propext ⟨fun q => q.elim id (fun q => by omega), Or.inl⟩
        rw [hg2]
        refine ⟨⟨j1, j2, j3⟩, j4, j5, fun hn => ⟨(j6 hn).1, fun a a0 a1 pa b eb => ?_⟩⟩
        by_cases hak : a = k
        · subst hak
          have := q2 b eb
          rw [(j6 hn).1] at hv2 this
          omega
        · exact (j6 hn).2 a a0 (by omega) pa b eb
    · refine ⟨(f, g, .inl k, .inl 2, y6), ?_, ⟨j1, j2, j3⟩, j4, j5, fun hn => ⟨(j6 hn).1, fun a a0 a1 pa b eb => ?_⟩⟩
      · rw [b229_21 L]
        simp only [rowU, Nat.reduceEqDiff, ↓reduceIte]
        rw [if_neg (by omega), b229_25 L (by omega)]
        simp only [rowU, Nat.reduceEqDiff, ↓reduceIte, ind, b01_f hk]
        rw [b229_35, b229_36, b229_39 L (by omega)]
        simp only [rowU, Nat.reduceEqDiff, ↓reduceIte, ind, b01_f hk]
        rw [b229_99 (by omega)]
      · by_cases hak : a = k
        · subst hak; exact absurd pa hk
        · exact (j6 hn).2 a a0 (by omega) pa b eb
/-- the date of a version as it is seen -/
def dt (I : Nat → Int → Int) (s v : Int) : Int := I 97 (12 * sa I s v + 1)
theorem r230 {h : HP} {I : Nat → Int → Int} {s v : Int} (L : LX 11 h 94) (N : WN I) (hs : s = 0 ∨ s = 1) (hv : 0 ≤ v ∧ v < 120) : Go 230 0 [.inr (.inl (some 94)), .inl s, .inl v] [] (mI h I) = some (mI h I, .inl (some (.inl (dt I s v)))) := by
  have hr := N (120 * s + v)
  have hb : 0 ≤ sa I s v ∧ sa I s v < 120 := by
    unfold sa
    split
    · exact hv
    · omega
  rw [b230_0 L, r225 L N hs hv, caln_r, b230_7 (by omega) (by omega) L (by omega)]
  rfl
/-- one version goes ahead of another in a walk, by generations f -/
def Ah (I : Nat → Int → Int) (s : Int) (f : Int → Int) (a b : Int) : Prop := f b < f a ∨ (f a = f b ∧ (dt I s b < dt I s a ∨ (dt I s a = dt I s b ∧ I 98 a < I 98 b)))
theorem r231 {h : HP} {I : Nat → Int → Int} {s a b : Int} {v4 : MV} (L : LX 11 h 94) (N : WN I) (hb : ∀ j, 0 ≤ I 97 j ∧ I 97 j ≤ 9999) (hs : s = 0 ∨ s = 1) (ha : 0 ≤ a ∧ a < 120) (hb2 : 0 ≤ b ∧ b < 120) :
    Go 231 0 [.inr (.inl (some 94)), .inl s, .inl a, .inl b, v4] [] (mI h I) = some (mI h I, .inl (some (.inl (b01 (Ah I s (I 138) a b))))) := by
  have d1 := hb (12 * sa I s a + 1)
  have d2 := hb (12 * sa I s b + 1)
  have e1 : dt I s a = I 97 (12 * sa I s a + 1) := rfl
  have e2 : dt I s b = I 97 (12 * sa I s b + 1) := rfl
  rw [b231_0 L ha hb2]
  unfold Ah
  by_cases h1 : I 138 a = I 138 b
  · rw [if_pos h1, b231_22 L, r230 L N hs ha, caln_r, b231_26 L, r230 L N hs hb2, caln_r, b231_30 (by omega)]
    by_cases h2 : 0 < dt I s a - dt I s b
    · rw [if_pos h2, b231_45, b231_48 (Or.inr rfl), b01_t (Or.inr ⟨h1, Or.inl (by omega)⟩)]
    · rw [if_neg h2, b231_34]
      by_cases h3 : dt I s a - dt I s b = 0
      · rw [if_neg (fun q => q h3), b231_36 L ha hb2]
        by_cases h4 : I 98 b ≤ I 98 a
        · rw [if_pos h4, b231_47, b231_48 (Or.inl rfl), b01_f (fun q => by omega)]
        · rw [if_neg h4, b231_45, b231_48 (Or.inr rfl), b01_t (Or.inr ⟨h1, Or.inr ⟨by omega, by omega⟩⟩)]
      · rw [if_pos h3, b231_47, b231_48 (Or.inl rfl), b01_f (fun q => by omega)]
  · rw [if_neg h1, b231_9 L ha hb2]
    by_cases h2 : I 138 a ≤ I 138 b
    · rw [if_pos h2, b231_20, b231_21 (Or.inl rfl), b01_f (fun q => by omega)]
    · rw [if_neg h2, b231_18, b231_21 (Or.inr rfl), b01_t (Or.inl (by omega))]
