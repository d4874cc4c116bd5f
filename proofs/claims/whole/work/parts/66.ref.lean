/-! ===== the reference's methods (17): replace ===== -/
theorem fnd_U {I : Nat → Int → Int} {a : Nat} {f : Int → Int} (ha : 99 ≤ a) : fnd (rowU I a f) = fnd I := by
  funext x
  unfold fnd
  rw [rowU_ne (by omega), rowU_ne (by omega)]
theorem kI_v {I : Nat → Int → Int} (W : WB I) {x : Int} (k : kI I x 2) : Vs I (fnd I x) := ⟨⟨k.1, (fnd_lt (I := I) (x := x) W.1.1).2.1⟩, k.2⟩
theorem Tu_U {I : Nat → Int → Int} {a : Nat} {f : Int → Int} (ha : 119 ≤ a) : Tu (rowU I a f) = Tu I := by
  funext s v y
  unfold Tu Sb
  rw [Es_U ha, atR_U (by omega), rowU_ne (by omega)]
def p1 (I : Nat → Int → Int) (s x y : Int) : Prop := (s = 0 ∨ s = 1) ∧ 0 ≤ fnd I x ∧ (y = -1 ∨ 0 ≤ fnd I y)
def p2 (I : Nat → Int → Int) (x y : Int) : Prop := kI I x 2 ∧ (y = -1 ∨ kI I y 2) ∧ x ≠ y
def p3 (I : Nat → Int → Int) (s x y : Int) : Prop := (y ≠ -1 → Wh I s (fnd I y)) ∧ ¬Tu I s (fnd I x) (fnd I (if y = -1 then x else y))
theorem S3_v {I : Nat → Int → Int} (W : WB I) {P : Int → Prop} (h : ∀ j, P j → Vs I j) : S3 P := fun j q => by
  have := (h j q).1
  have := W.1
  omega
theorem S3_l {I : Nat → Int → Int} (W : WB I) {P : Int → Prop} (h : ∀ j, P j → 0 ≤ j ∧ j < I 94 0) : S3 P := fun j q => by
  have := h j q
  have := W.1
  omega
theorem Sb_U {I : Nat → Int → Int} {a : Nat} {f : Int → Int} (ha : 99 ≤ a) : Sb (rowU I a f) = Sb I := by
  funext x y z
  unfold Sb
  rw [atR_U ha]
theorem TuS {J : Nat → Int → Int} {s y d : Int} (W : WB J) (N : WN J) (V : WV J) (hs : s = 0 ∨ s = 1) (vy : Vs J y) : ∀ j, Cl (Es J s d) (Sb J y (J 96 y)) j → Vs J j :=
  fun j c => Cl_ind c (fun a ⟨i, q1, q2, q3⟩ => q3 ▸ (Vs_p W V vy q1 q2).1) (fun a b ha e => Es_v W N V hs ha e)
theorem r228b {h : HP} {J : Nat → Int → Int} {s x y : Int} {v4 v5 v6 v7 : MV} (L : LX 11 h 94) (W : WB J) (K : WK J) (N : WN J) (V : WV J) (Z : Z133 J) (hs : s = 0 ∨ s = 1) (hx : kI J x 2) (hy : y = -1 ∨ kI J y 2) (h4 : ∃ z, v4 = .inl z) :
    ∃ P, S3 P ∧ Go 228 46 [.inr (.inl (some 94)), .inl s, .inl x, .inl y, v4, v5, v6, v7] [.inr (.inl (some 94))] (mI h J) = Go 228 74 [.inr (.inl (some 94)), .inl s, .inl x, .inl y, v4, v5, v6, v7] [.inl (3 * b01 (¬p3 J s x y)), .inr (.inl (some 94))] (mI h (rowU J 133 (ind P))) := by
  obtain ⟨z4, rfl⟩ := h4
  have ht := WB_t W
  have vx := kI_v W hx
  have vxl := vx.1
  rw [b228_46]
  by_cases h1 : y = -1
  · rw [if_pos h1, b228_56 L, r165 L ht, caln_r, b228_61, if_neg (fun q => q h1), b228_65, b228_68 L, r165 L ht, caln_r, b228_69 L, r227 L W N V Z hs (by omega) vx, caln_r, b228_70]
    refine ⟨Cl (Es J s 1) (Sb J (fnd J x) (J 96 (fnd J x))), S3_v W (TuS W N V hs vx), ?_⟩
    · by_cases ht : Tu J s (fnd J x) (fnd J x)
      · rw [b01_t ht, if_neg neg1_ne, b228_71, b01_t (p := ¬p3 J s x y) (fun q => q.2 (by rw [if_pos h1]; exact ht))]
        rfl
      · rw [b01_f ht, if_pos rfl, b228_73, b01_f (p := ¬p3 J s x y) (fun q => q ⟨fun q => absurd h1 q, by rw [if_pos h1]; exact ht⟩)]
        rfl
  · have vy := kI_v W (hy.resolve_left h1)
    have vyl := vy.1
    rw [if_neg h1, b228_49 L, r165 L ht, caln_r, b228_54 L, r182 L W K Z hs vyl, caln_r, b228_55]
    have s3 : S3 (Cl (Eg J s) (fun j => j = fnd J y)) := S3_l W (Cl_lt W (fun j q => q ▸ vyl))
    have W2 : WB (rowU J 133 (ind (Cl (Eg J s) (fun j => j = fnd J y)))) := by rw [WB_U (by decide)]; exact W
    have N2 : WN (rowU J 133 (ind (Cl (Eg J s) (fun j => j = fnd J y)))) := by rw [WN_U (by decide)]; exact N
    have V2 : WV (rowU J 133 (ind (Cl (Eg J s) (fun j => j = fnd J y)))) := by rw [WV_U (by decide)]; exact V
    have Z2 : Z133 (rowU J 133 (ind (Cl (Eg J s) (fun j => j = fnd J y)))) := Z133_i s3
    have ht2 := WB_t W2
    by_cases hw : Wh J s (fnd J y)
    · rw [b01_t hw, if_neg neg1_ne, b228_56 L, r165 L ht2, caln_r, b228_61, if_pos h1, b228_67, b228_68 L, r165 L ht2, caln_r, fnd_U (by decide), b228_69 L, r227 L W2 N2 V2 Z2 hs (by omega) ⟨by simp only [rowU, Nat.reduceEqDiff, ↓reduceIte]; exact vyl, by simp only [rowU, Nat.reduceEqDiff, ↓reduceIte]; exact vy.2⟩, caln_r, b228_70, rowU_tw, Tu_U (by decide), Es_U (by decide), Sb_U (by decide)]
      refine ⟨Cl (Es J s 1) (Sb J (fnd J y) (J 96 (fnd J y))), S3_v W (TuS W N V hs vy), ?_⟩
      · by_cases ht : Tu J s (fnd J x) (fnd J y)
        · rw [b01_t ht, if_neg neg1_ne, b228_71, b01_t (p := ¬p3 J s x y) (fun q => q.2 (by rw [if_neg h1]; exact ht))]
          rfl
        · rw [b01_f ht, if_pos rfl, b228_73, b01_f (p := ¬p3 J s x y) (fun q => q ⟨fun _ => hw, by rw [if_neg h1]; exact ht⟩)]
          rfl
    · refine ⟨_, s3, ?_⟩
      rw [b01_f hw, if_pos rfl, b228_71, b01_t (p := ¬p3 J s x y) (fun q => hw (q.1 h1))]
      rfl
/-- the store's version is seen as another, by a note */ -/
noncomputable def rP (X : Nat → Int → Int) (s o z : Int) : Nat → Int → Int :=
  kN (rowU (dO X s 4 0) 118 (up1 (X 118) (120 * s + o) z)) s (dO X s 4 0 104 s)
theorem r228 {h : HP} {I : Nat → Int → Int} {s x y : Int} {v4 v5 v6 v7 : MV} (L : LX 11 h 94) (W : WT I) (V : WV I) (hP : ∃ P, S3 P ∧ I 133 = ind P) :
    ∃ P, S3 P ∧ Go 228 0 [.inr (.inl (some 94)), .inl s, .inl x, .inl y, v4, v5, v6, v7] [] (mI h I) = @ite _ (p1 I s x y) (Classical.propDecidable _) (@ite _ (p2 I x y) (Classical.propDecidable _) (aq h (p3 I s x y) (rP (rowU (tH I 0) 133 (ind P)) s (fnd I x) (fnd I y + 1)) (nm I (I 118 (120 * s + fnd I x))) (rowU I 133 (ind P)) 3) (some (mI h (tH I 2), .inl (some (.inl 0))))) (some (mI h (tH I 1), .inl (some (.inl 0)))) := by
  obtain ⟨P0, h0, e0⟩ := hP
  have ht := WB_t W.1
  have bad : Go 228 14 [.inr (.inl (some 94)), .inl s, .inl x, .inl y, v4, v5, v6, v7] [.inr (.inl (some 94))] (mI h I) = some (mI h (tH I 1), .inl (some (.inl 0))) := by
    rw [b228_14, b228_15 L, zu2_tI, tH_49, if_neg (by decide), b228_19]
  rw [b228_0, r164, caln_r, b228_3]
  by_cases hs : s = 0 ∨ s = 1
  · rw [b01_t hs, if_neg neg1_ne, b228_4 L, r166 L ht, caln_r, b228_7]
    by_cases hx : 0 ≤ fnd I x
    · rw [b01_t hx, if_neg neg1_ne, b228_8 L, r167 L ht, caln_r, b228_11]
      by_cases hy : y = -1 ∨ 0 ≤ fnd I y
      · rw [b01_t hy, if_neg neg1_ne, b228_12, b228_15 L, zu2_tI, tH_49, if_pos (by decide)]
        simp only [if_pos (show p1 I s x y from ⟨hs, hx, hy⟩)]
        have hf := fnd_lt (I := I) (x := x) ht.1
        have W2 : WT (tH I 0) := by rw [WT_tH]; exact W
        have ff : fnd (tH I 0) = fnd I := funext (fun _ => fnd_tH)
        have e94 : tH I 0 94 0 = I 94 0 := tH_94 (by decide)
        have ht2 := WB_t W2.1
        have kk : ∀ a c, kI (tH I 0) a c = kI I a c := fun a c => by
          unfold kI
          rw [ff, tH_n (by decide)]
        have bad2 : Go 228 39 [.inr (.inl (some 94)), .inl s, .inl x, .inl y, v4, v5, v6, v7] [] (mI h (tH I 0)) = some (mI h (tH I 2), .inl (some (.inl 0))) := by
          rw [b228_39, b228_40, if_neg (fun q => q rfl), b228_44, b228_74 L, zu2_tH, tH_49, if_neg (by decide), b228_78]
        rw [b228_21 L, r168 L ht2, caln_r, b228_25]
        by_cases q1 : kI (tH I 0) x 2
        · rw [b01_t (show 0 ≤ fnd (tH I 0) x ∧ tH I 0 95 (fnd (tH I 0) x) = 2 from q1), if_neg neg1_ne, b228_26]
          have mid : (y = -1 ∨ kI (tH I 0) y 2) → ∃ P, S3 P ∧ Go 228 34 [.inr (.inl (some 94)), .inl s, .inl x, .inl y, v4, v5, v6, v7] [] (mI h (tH I 0)) = @ite _ (p2 I x y) (Classical.propDecidable _) (aq h (p3 I s x y) (rP (rowU (tH I 0) 133 (ind P)) s (fnd I x) (fnd I y + 1)) (nm I (I 118 (120 * s + fnd I x))) (rowU I 133 (ind P)) 3) (some (mI h (tH I 2), .inl (some (.inl 0)))) := by
            intro q2
            rw [b228_34]
            by_cases q3 : x = y
            · refine ⟨P0, h0, ?_⟩
              rw [if_pos q3, bad2, if_neg (fun q => q.2.2 q3)]
            · have Z2 : Z133 (tH I 0) := by
                have : tH I 0 = rowU (tH I 0) 133 (ind P0) := by
                  rw [← e0]
                  exact (rowU_id (tH I 0) 133).symm
                rw [this]
                exact Z133_i h0
              have V2 : WV (tH I 0) := by
                unfold WV Lk atR
                rw [ff, e94]
                exact V
              obtain ⟨P, hP, e⟩ := r228b (h := h) (J := tH I 0) (s := s) (x := x) (y := y) (v4 := .inl 1) (v5 := v5) (v6 := v6) (v7 := v7) L W2.1 W2.2.2.2.1 W2.2.2.1 V2 Z2 hs q1 q2 ⟨1, rfl⟩
              refine ⟨P, hP, ?_⟩
              have p3e : p3 (tH I 0) s x y = p3 I s x y := by
                unfold p3 Tu Wh Cl Es Eg Lk Sb sa atR
                rw [ff]
                rfl
              rw [if_neg q3, b228_37, b228_40, if_pos neg1_ne, e, if_pos (show p2 I x y from ⟨by rw [← kk]; exact q1, q2.imp id (fun q => by rw [← kk]; exact q), q3⟩), p3e, b228_74 L]
              have z1 : ∀ t, zu2 (rowU (tH I 0) 133 (ind P)) 94 49 t = tH (rowU I 133 (ind P)) t := fun t => by rw [zu2_tI, tH_rU (by decide), tH_tH, tH_rU (by decide)]
              rw [z1, tH_49]
              by_cases c3 : p3 I s x y
              · rw [aq_t c3, b01_f (fun q => q c3), if_pos (by decide)]
                obtain ⟨X, hX⟩ : ∃ X, X = rowU (tH I 0) 133 (ind P) := ⟨_, rfl⟩
                have z2 : tH (rowU I 133 (ind P)) (3 * 0) = X := by rw [hX, tH_rU (by decide)]; rfl
                rw [z2, ← hX]
                have X98 : X 98 = I 98 := by rw [hX]; rfl
                have X118 : X 118 = I 118 := by rw [hX]; rfl
                have X0 : X 94 0 = I 94 0 := by rw [hX]; exact e94
                have ht3 : 0 ≤ X 94 0 ∧ X 94 0 ≤ 120 := by rw [X0]; exact ht
                have fX : fnd X = fnd I := by
                  funext z
                  unfold fnd
                  rw [X98, X0]
                have WX : WT X := by
                  rw [hX]
                  unfold WT
                  rw [WB_U (by decide), WK_U (by decide)]
                  exact W2
                have d98 : ∀ a o, dO X s a o 98 = I 98 := fun a o => by rw [dO_f (by decide), X98]
                have d94 : ∀ a o, dO X s a o 94 = X 94 := fun a o => dO_f (by decide)
                have fD : fnd (dO X s 4 0) = fnd I := by
                  funext z
                  unfold fnd
                  rw [d98, d94, X0]
                have dd := W2.2.2.2.2.2.1 s hs
                have ddX : 0 ≤ X 104 s ∧ X 104 s ≤ 30 := WX.2.2.2.2.2.1 s hs
                have j4 := dJ_104 ddX
                have hy2 := fnd_lt (I := I) (x := y) ht.1
                have N118 := W.2.2.1
                rw [b228_80 (by omega) L, r165 L ht3, fX, caln_r, b228_86 (by omega) L (by omega), r186 L ht3 WX.2.1 WX.2.2.1 WX.2.2.2.2.1 hs ddX, caln_r, b228_98 L, r165 L (by rw [d94]; exact ht3), fD, caln_r,
                  b228_105 (by omega) L (by omega), zu2_row]
                have e118 : dO X s 4 0 118 = X 118 := dO_f (by decide)
                rw [e118]
                have Nn : WN (rowU (dO X s 4 0) 118 (up1 (X 118) (120 * s + fnd I x) (fnd I y + 1))) := by
                  intro j
                  rw [rowU_eq]
                  unfold up1
                  split
                  · have := W.1.1; omega
                  · rw [X118]; exact N118 j
                rw [r187 L Nn hs (by simp only [rowU, Nat.reduceEqDiff, ↓reduceIte]; exact dO_104 ddX), caln_v, b228_111, if_pos j4.1, b228_115 L, X118]
                have hr := N118 (120 * s + fnd I x)
                rw [r220 L (by omega), caln_r, b228_118]
                have nme : ∀ Y : Nat → Int → Int, Y 98 = I 98 → ∀ z, nm Y z = nm I z := fun Y q z => by
                  unfold nm
                  rw [q]
                rw [nme _ (by rw [kN_f (by decide) (by decide) (by decide), rowU_ne (by decide), d98])]
                unfold rP
                rw [X118]
                simp only [rowU, Nat.reduceEqDiff, ↓reduceIte]
              · rw [aq_f c3, b01_t c3, if_neg (by decide), b228_78]
                rfl
          by_cases h1 : y = -1
          · rw [if_pos h1]
            exact mid (Or.inl h1)
          · rw [if_neg h1, b228_29 L, r168 L ht2, caln_r, b228_33]
            by_cases q2 : kI (tH I 0) y 2
            · rw [b01_t (show 0 ≤ fnd (tH I 0) y ∧ tH I 0 95 (fnd (tH I 0) y) = 2 from q2), if_neg neg1_ne]
              exact mid (Or.inr q2)
            · refine ⟨P0, h0, ?_⟩
              rw [b01_f (show ¬(0 ≤ fnd (tH I 0) y ∧ tH I 0 95 (fnd (tH I 0) y) = 2) from q2), if_pos rfl, bad2, if_neg (fun q => (q.2.1.resolve_left h1) |> fun q => q2 (by rw [kk]; exact q))]
        · refine ⟨P0, h0, ?_⟩
          rw [b01_f (show ¬(0 ≤ fnd (tH I 0) x ∧ tH I 0 95 (fnd (tH I 0) x) = 2) from q1), if_pos rfl, bad2, if_neg (fun q => q1 (by rw [kk]; exact q.1))]
      · refine ⟨P0, h0, ?_⟩
        rw [b01_f hy, if_pos rfl, bad, if_neg (fun q => hy q.2.2)]
    · refine ⟨P0, h0, ?_⟩
      rw [b01_f hx, if_pos rfl, bad, if_neg (fun q => hx q.2.1)]
  · refine ⟨P0, h0, ?_⟩
    rw [b01_f hs, if_pos rfl, bad, if_neg (fun q => hs q.1)]
