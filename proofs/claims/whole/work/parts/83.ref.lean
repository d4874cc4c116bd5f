/-! ===== the reference's methods (34): fetches ===== -/
def fS (I : Nat → Int → Int) (u r l hf k : Int) : Prop := Wn I u (I 115 (6 * u + r)) l k ∧ ¬Hd I (1 - u) k ∧ ¬(I 95 k = 0 ∧ (hf ≠ 0 ∨ (I 117 (120 * u + k) ≠ 0 ∧ ¬Th I u k)))
noncomputable def fN (I : Nat → Int → Int) (u r l hf : Int) : Int := cN (fS I u r l hf) (I 94 0).toNat
def f1 (I : Nat → Int → Int) (u r : Int) : Prop := I 94 9 = 0 ∧ I 115 (6 * u + r) ≠ 0
def f2a (I : Nat → Int → Int) (u r l p : Int) : Prop := p ≠ 0 → 0 ≤ tp I (I 115 (6 * (1 - u) + r)) → Wn I u (I 115 (6 * u + r)) l (tp I (I 115 (6 * (1 - u) + r)))
def f2 (I : Nat → Int → Int) (u r l hf p : Int) : Prop := f2a I u r l p ∧ (∀ k, fS I u r l hf k → Gd I u k) ∧ (0 < fN I u r l hf → I 108 (1 - u) ≠ 20)
/-- references name versions or tags -/
def WRk (I : Nat → Int → Int) : Prop := ∀ k, 0 ≤ k → k < 12 → I 115 k ≠ 0 → 2 ≤ I 95 (I 115 k - 1)
theorem tp_v {I : Nat → Int → Int} (W : WB I) (V : WV I) {x : Int} (hx : 0 < x ∧ x ≤ I 94 0) (h2 : 2 ≤ I 95 (x - 1)) : Vs I (tp I x) := by
  have w := W.2 (x - 1) (by omega) (by omega)
  have w1 := w.1
  unfold tp
  rw [if_neg (by omega)]
  by_cases h3 : I 95 (x - 1) = 3
  · rw [if_pos h3]
    have hl : Lk I (x - 1) 0 := ⟨Int.le_refl _, by have := w1.2.2.2.2.2.2 h3; omega, Or.inr (Or.inr ⟨h3, rfl⟩)⟩
    have ha := w.2 0 hl
    exact ⟨⟨ha.1, by omega⟩, (V.1 (x - 1) (by omega) (by omega) 0 hl).2.2.2 h3⟩
  · rw [if_neg h3]
    exact ⟨by omega, by omega⟩
theorem ag_fS {I X : Nat → Int → Int} (g : AG I X) : fS X = fS I := by
  unfold fS
  rw [ag_Wn g, ag_Hd g, ag_Th g, g.1 115 (by decide) (by decide), g.1 95 (by decide) (by decide), g.1 117 (by decide) (by decide)]
theorem r265a {h : HP} {I Y : Nat → Int → Int} {u r l hf c p x7 x9 : Int} {v12 : MV} {t : Int} (L : LX 11 h 94) (g : AG I Y) (W : WT I) (hu : u = 0 ∨ u = 1) (h4 : Y 134 = ind (Wn I u (I 115 (6 * u + r)) l)) (h5 : Y 135 = ind (Hd I (1 - u)))
    (Z6 : ∃ P, S3 P ∧ Y 136 = ind P) (Z7 : ∃ P, S3 P ∧ Y 137 = ind P) (hSr : S3 (fS I u r l hf)) :
    ∃ w12, Go 265 61 [.inr (.inl (some 94)), .inl u, .inl r, .inl l, .inl hf, .inl c, .inl p, .inl x7, .inl (1 - u), .inl x9, v12, v12, v12] [] (mI h (tH Y t)) = Go 265 138 [.inr (.inl (some 94)), .inl u, .inl r, .inl l, .inl hf, .inl c, .inl p, .inl x7, .inl (1 - u), .inl x9, .inl (b01 (∀ k, fS I u r l hf k → Gd I u k)), .inl 120, w12] [] (mI h (tH (rowU (rowU Y 136 (ind (fS I u r l hf))) 137 (ind (fS I u r l hf))) t)) := by
  obtain ⟨P6, hP6, e6⟩ := Z6
  obtain ⟨P7, hP7, e7⟩ := Z7
  obtain ⟨S, hS⟩ : ∃ S, S = fS I u r l hf := ⟨_, rfl⟩
  rw [← hS] at hSr ⊢
  have key := lpE (fun k (v : MV) => Go 265 65 [.inr (.inl (some 94)), .inl u, .inl r, .inl l, .inl hf, .inl c, .inl p, .inl x7, .inl (1 - u), .inl x9, .inl (b01 (∀ i, i < k → S i → Gd I u i)), .inl k, v] [] (mI h (tH (rowU (rowU Y 136 (fillR (Y 136) 0 k (ind S))) 137 (fillR (Y 137) 0 k (ind S))) t))) (fun _ _ => True) 0 120 (by omega) ?_ v12 trivial
  · obtain ⟨w12, e, -⟩ := key
    rw [fillR_0 (by omega), fillR_0 (by omega), show rowU (rowU Y 136 (Y 136)) 137 (Y 137) = Y by rw [rowU_id, rowU_id], b01_t (p := ∀ i, i < 0 → S i → Gd I u i) (fun i a b => by have := hSr i b; omega)] at e
    refine ⟨w12, ?_⟩
    rw [b265_61, e, b265_65, if_pos (by decide), e6, e7, fillR_ind hP6 hSr, fillR_ind hP7 hSr, b01_c (p := ∀ i, i < 120 → S i → Gd I u i) (q := ∀ k, S k → Gd I u k) ⟨fun q k a => q k (hSr k a).2 a, fun q k _ a => q k a⟩]
  · intro k v k0 k1 _
    obtain ⟨X, hX⟩ : ∃ X, X = tH (rowU (rowU Y 136 (fillR (Y 136) 0 k (ind S))) 137 (fillR (Y 137) 0 k (ind S))) t := ⟨_, rfl⟩
    have gX : AG I X := by rw [hX]; exact AG_t (AG_U (AG_U g (by decide)) (by decide))
    have X134 : X 134 = ind (Wn I u (I 115 (6 * u + r)) l) := by rw [hX, tH_n (by decide), rowU_ne (by decide), rowU_ne (by decide), h4]
    have X135 : X 135 = ind (Hd I (1 - u)) := by rw [hX, tH_n (by decide), rowU_ne (by decide), rowU_ne (by decide), h5]
    have X95 : X 95 = I 95 := gX.1 95 (by decide) (by decide)
    have X117 : X 117 = I 117 := gX.1 117 (by decide) (by decide)
    have WX2 : WT X := by rw [ag_WT gX]; exact W
    have hGs : ∀ (w : Int) (q : Prop), w = b01 q → (q ↔ (S k → Gd I u k)) → zand (b01 (∀ i, i < k → S i → Gd I u i)) w = b01 (∀ i, i < k + 1 → S i → Gd I u i) := by
      intro w q hw hq
      rw [hw, zand_b]
      apply b01_c
      rw [hq]
      constructor
      · rintro ⟨q1, q2⟩ i hi
        by_cases hik : i = k
        · subst hik; exact q2
        · exact q1 i (by omega)
      · intro q
        exact ⟨fun i hi => q i (by omega), q k (by omega)⟩
    -- what is written
    have hz : ∀ w : Int, w = b01 (S k) → zu2 (zu2 X 136 k w) 137 k (zu2 X 136 k w 136 k) = tH (rowU (rowU Y 136 (fillR (Y 136) 0 (k + 1) (ind S))) 137 (fillR (Y 137) 0 (k + 1) (ind S))) t := by
      intro w hw
      have e1 : zu2 X 136 k w 136 k = w := by rw [zu2_row, rowU_eq, up1_eq]
      rw [e1, hX, tH_zu2 (by decide), tH_zu2 (by decide)]
      congr 1
      rw [zu2_row, zu2_row, rowU_ne (b := 136) (by decide), rowU_eq, rowU_cm (a := 137) (b := 136) (by decide), rowU_tw, rowU_eq, rowU_tw, fillR_s k0 hw, fillR_s k0 hw]
    have fin : ∀ (w : Int) (x12 : Int), w = b01 (S k) → ∃ w12, Go 265 111 [.inr (.inl (some 94)), .inl u, .inl r, .inl l, .inl hf, .inl c, .inl p, .inl x7, .inl (1 - u), .inl x9, .inl (b01 (∀ i, i < k → S i → Gd I u i)), .inl k, .inl x12] [.inl w, .inl k, .inr (.inl (some 136))] (mI h X) = Go 265 65 [.inr (.inl (some 94)), .inl u, .inl r, .inl l, .inl hf, .inl c, .inl p, .inl x7, .inl (1 - u), .inl x9, .inl (b01 (∀ i, i < k + 1 → S i → Gd I u i)), .inl (k + 1), w12] [] (mI h (tH (rowU (rowU Y 136 (fillR (Y 136) 0 (k + 1) (ind S))) 137 (fillR (Y 137) 0 (k + 1) (ind S))) t)) := by
      intro w x12 hw
      refine ⟨.inl x12, ?_⟩
      have e1 : zu2 X 136 k w 136 k = w := by rw [zu2_row, rowU_eq, up1_eq]
      have hwb : w = 0 ∨ w = 1 := by rw [hw]; exact b01_or _
      have e2 : zu2 (zu2 X 136 k w) 137 k w 136 k = w := by rw [zu2_row, rowU_ne (by decide), e1]
      rw [b265_111 L (by omega) hwb (by omega) (by rw [e1]; exact hwb)]
      have hz1 := hz w hw
      rw [e1] at hz1 ⊢
      rw [e2, hz1]
      have gZ : AG I (tH (rowU (rowU Y 136 (fillR (Y 136) 0 (k + 1) (ind S))) 137 (fillR (Y 137) 0 (k + 1) (ind S))) t) := AG_t (AG_U (AG_U g (by decide)) (by decide))
      have WZ := (ag_WT gZ).symm ▸ W
      by_cases q : S k
      · rw [hw, b01_t q, if_neg neg1_ne, b265_126 L, r181 L WZ.2.2.2.1 WZ.2.1 hu (by omega), ag_Gd gZ, caln_r, b265_130]
        by_cases q2 : Gd I u k
        · rw [b01_t q2, if_neg neg1_ne, b265_131, b265_134 (by omega), hGs 1 True (b01_t trivial).symm ⟨fun _ _ => q2, fun _ => trivial⟩]
        · rw [b01_f q2, if_pos rfl, b265_133, b265_134 (by omega), hGs 0 False (b01_f (fun q => q)).symm ⟨False.elim, fun d => q2 (d q)⟩]
      · rw [hw, b01_f q, if_pos rfl, b265_131, b265_134 (by omega), hGs 1 True (b01_t trivial).symm ⟨fun _ d => absurd d q, fun _ => trivial⟩]
    have nx : ∀ (wk : Int) (kq : Prop), wk = b01 kq → (kq ↔ (I 95 k = 0 ∧ (hf ≠ 0 ∨ (I 117 (120 * u + k) ≠ 0 ∧ ¬Th I u k)))) → ∃ w12, Go 265 92 [.inr (.inl (some 94)), .inl u, .inl r, .inl l, .inl hf, .inl c, .inl p, .inl x7, .inl (1 - u), .inl x9, .inl (b01 (∀ i, i < k → S i → Gd I u i)), .inl k, v] [.inl wk] (mI h X) = Go 265 65 [.inr (.inl (some 94)), .inl u, .inl r, .inl l, .inl hf, .inl c, .inl p, .inl x7, .inl (1 - u), .inl x9, .inl (b01 (∀ i, i < k + 1 → S i → Gd I u i)), .inl (k + 1), w12] [] (mI h (tH (rowU (rowU Y 136 (fillR (Y 136) 0 (k + 1) (ind S))) 137 (fillR (Y 137) 0 (k + 1) (ind S))) t)) := by
      intro wk kq hwk hkq
      rw [hwk]
      have hSk : S k ↔ Wn I u (I 115 (6 * u + r)) l k ∧ ¬Hd I (1 - u) k ∧ ¬kq := by
        rw [hS, hkq]
        exact Iff.rfl
      rw [b265_92 L (by omega), X134]
      by_cases q1 : Wn I u (I 115 (6 * u + r)) l k
      · rw [if_neg (by rw [ind_at]; exact fun q => q q1), b265_101 L (by omega), X135]
        by_cases q2 : Hd I (1 - u) k
        · rw [if_pos (by rw [ne_eq, ind_at]; exact fun q => q q2), b265_110]
          exact fin 0 _ (b01_f (fun q => (hSk.mp q).2.1 q2)).symm
        · rw [if_neg (by rw [ne_eq, ind_at]; exact fun q => q q2), b265_106]
          by_cases q3 : kq
          · rw [b01_t q3, if_pos neg1_ne, b265_110]
            exact fin 0 _ (b01_f (fun q => (hSk.mp q).2.2 q3)).symm
          · rw [b01_f q3, if_neg (fun q => q rfl), b265_108]
            exact fin 1 _ (b01_t (hSk.mpr ⟨q1, q2, q3⟩)).symm
      · rw [if_pos (by rw [ind_at]; exact q1), b265_110]
        exact fin 0 _ (b01_f (fun q => q1 (hSk.mp q).1)).symm
    have h1 : (1 : Int) = b01 True := (b01_t trivial).symm
    have h0 : (0 : Int) = b01 False := (b01_f (fun q => q)).symm
    have res : ∃ w12, Go 265 65 [.inr (.inl (some 94)), .inl u, .inl r, .inl l, .inl hf, .inl c, .inl p, .inl x7, .inl (1 - u), .inl x9, .inl (b01 (∀ i, i < k → S i → Gd I u i)), .inl k, v] [] (mI h X) = Go 265 65 [.inr (.inl (some 94)), .inl u, .inl r, .inl l, .inl hf, .inl c, .inl p, .inl x7, .inl (1 - u), .inl x9, .inl (b01 (∀ i, i < k + 1 → S i → Gd I u i)), .inl (k + 1), w12] [] (mI h (tH (rowU (rowU Y 136 (fillR (Y 136) 0 (k + 1) (ind S))) 137 (fillR (Y 137) 0 (k + 1) (ind S))) t)) := by
      rw [b265_65, if_neg (by omega), b265_68 L (by omega), X95]
      by_cases q1 : I 95 k = 0
      · rw [if_neg (fun q => q q1), b265_73]
        by_cases q2 : hf = 0
        · rw [if_neg (fun q => q q2), b265_75 L (by omega) (by omega) (by omega), X117]
          by_cases q3 : I 117 (120 * u + k) = 0
          · rw [if_pos q3, b265_91]
            exact nx 0 False h0 ⟨False.elim, fun q => q.2.elim (fun q => q q2) (fun q => q.1 q3)⟩
          · rw [if_neg q3, b265_84 L, r179 L WX2.2.2.2.1 hu (by omega), ag_Th gX, caln_r, b265_88]
            by_cases q4 : Th I u k
            · rw [b01_t q4, if_pos neg1_ne, b265_91]
              exact nx 0 False h0 ⟨False.elim, fun q => q.2.elim (fun q => q q2) (fun q => q.2 q4)⟩
            · rw [b01_f q4, if_neg (fun q => q rfl), b265_89]
              exact nx 1 True h1 ⟨fun _ => ⟨q1, Or.inr ⟨q3, q4⟩⟩, fun _ => trivial⟩
        · rw [if_pos q2, b265_89]
          exact nx 1 True h1 ⟨fun _ => ⟨q1, Or.inl q2⟩, fun _ => trivial⟩
      · rw [if_pos q1, b265_91]
        exact nx 0 False h0 ⟨False.elim, fun q => q1 q.1⟩
    obtain ⟨w12, e⟩ := res
    rw [hX] at e
    exact ⟨w12, e, trivial⟩
