/-! ===== the calls (5): put, clear, tick, line, pin ===== -/
section CAL2
variable {n : Int} {h : HP} {I J : Nat → Int → Int}
theorem CR_k {A K : Nat → Int → Int} (C : CR I J) (f0 : K 94 0 = J 94 0) (hA : ∀ a, 74 ≤ a ∧ a ≤ 91 → A a = I a) : CR A K := by
  unfold CR SL at C ⊢
  rw [hA 75 (by decide), hA 87 (by decide), hA 89 (by decide), hA 84 (by decide), hA 90 (by decide), hA 91 (by decide), hA 78 (by decide), hA 79 (by decide), f0]
  exact C
theorem CWl_k {A K : Nat → Int → Int} (C : CWl I J) (f0 : K 94 0 = J 94 0) (f41 : K 94 41 = J 94 41) (f98 : K 98 = J 98) (f132 : K 132 = J 132) (hA : ∀ a, 74 ≤ a ∧ a ≤ 91 → A a = I a) : CWl A K := by
  unfold CWl at C ⊢
  rw [hA 76 (by decide), hA 80 (by decide), f0, f41, f98, f132]
  exact C
/-- a store of the notes, of the class's own fields alone -/
theorem RS_f {A K : Nat → Int → Int} (E : EV n h I J) (f : ∀ a, (95 ≤ a ∧ a ≤ 98) ∨ (101 ≤ a ∧ a ≤ 132) → K a = J a) (f0 : K 94 0 = J 94 0) (f41 : K 94 41 = J 94 41) (hA : ∀ a, (2 ≤ a ∧ a ≤ 91) ∨ 94 ≤ a → A a = I a) (hD : CD A K) : RS h I h A K :=
  ⟨XT_w (XT_r h) (by decide) (by decide), E.2.1, CPL_g E.2.2.1 (iv_T E.2.2.2) E.2.1 (fun a ha => f a (by omega)) f0 (fun a ha => hA a (by omega)) hD (CWl_k E.2.2.1.2.2.2.1 f0 f41 (f 98 (by decide)) (f 132 (by decide)) (fun a ha => hA a (by omega))) (CR_k E.2.2.1.2.2.2.2 f0 (fun a ha => hA a (by omega))), fun a a0 a1 => hA a (by omega)⟩
noncomputable def ptC (J : Nat → Int → Int) (x : Int) : Int := ic (0 ≤ x ∧ x ≤ 9999) (ic (J 94 5 = 12) 2 0) 1
def ptK (J : Nat → Int → Int) (x : Int) : Nat → Int → Int := rowU (rowU J 99 (up1 (J 99) (J 94 5) x)) 94 (up1 (J 94) 5 (J 94 5 + 1))
noncomputable def iK (c : Int) (K J : Nat → Int → Int) : Nat → Int → Int := if c = 0 then K else J
theorem iK_0 {K J : Nat → Int → Int} : iK 0 K J = K := rfl
theorem iK_n {c : Int} {K J : Nat → Int → Int} (h : c ≠ 0) : iK c K J = J := if_neg h
theorem ic_r {p : Prop} {x y : Int} (hx : 0 ≤ x ∧ x ≤ 3) (hy : 0 ≤ y ∧ y ≤ 3) : 0 ≤ ic p x y ∧ ic p x y ≤ 3 := by
  unfold ic
  split
  · exact hx
  · exact hy
theorem ic_3 {p q : Prop} {x y z : Int} (hx : 0 ≤ x ∧ x ≤ 3) (hy : 0 ≤ y ∧ y ≤ 3) (hz : 0 ≤ z ∧ z ≤ 3) : ic p (ic q x y) z = 0 ∨ ic p (ic q x y) z = 1 ∨ ic p (ic q x y) z = 2 ∨ ic p (ic q x y) z = 3 := by
  have := ic_r (p := p) (ic_r (p := q) hx hy) hz
  omega
-- put
theorem k99 {x : Int} (E : EV n h I J) : ∃ h1 I1, Go 99 0 [.inr (.inl (some 1)), .inl x] [] (mI h I) = some (mI h1 I1, oc eB (ptC J x) (J 94 5 + 1)) ∧ RS h I h1 I1 (iK (ptC J x) (ptK J x) J) := by
  have L10 := ly_10 E.1
  obtain ⟨⟨d1, d2⟩, d3, d4⟩ := (ev_C E).2.1
  have w := (iv_D (ev_V E)).1
  unfold ptC
  by_cases c : 0 ≤ x ∧ x ≤ 9999
  · by_cases d : J 94 5 = 12
    · exact ⟨hThr h, I, by rw [ic_t c, ic_t d, b99_0, if_neg (by omega), b99_2, if_pos (by omega), b99_6 L10, d1, if_neg (by omega), b99_9 L10, d1, if_neg (by omega), b99_13]; rfl, by rw [ic_t c, ic_t d]; exact RS_x E⟩
    · have i0 : zu2 I 92 (J 94 5) x 1 11 = J 94 5 := by rw [zu2_row, rowU_ne (by decide), d1]
      obtain ⟨A, hA⟩ : ∃ A, A = zu2 (zu2 I 92 (J 94 5) x) 1 11 (J 94 5 + 1) := ⟨_, rfl⟩
      have A1 : A 1 = up1 (I 1) 11 (J 94 5 + 1) := by rw [hA, zu2_row, rowU_eq, zu2_row, rowU_ne (by decide)]
      have A92 : A 92 = up1 (I 92) (J 94 5) x := by rw [hA, zu2_row, rowU_ne (by decide), zu2_row, rowU_eq]
      have Af : ∀ a, a ≠ 1 → a ≠ 92 → A a = I a := fun a h1 h2 => by rw [hA, zu2_row, rowU_ne h1, zu2_row, rowU_ne h2]
      have k5 : ptK J x 94 = up1 (J 94) 5 (J 94 5 + 1) := by unfold ptK; rw [rowU_eq]
      have k99_ : ptK J x 99 = up1 (J 99) (J 94 5) x := by unfold ptK; rw [rowU_ne (by decide), rowU_eq]
      refine ⟨h, A, ?_, ?_⟩
      · rw [ic_t c, ic_f d, b99_0, if_neg (by omega), b99_2, if_pos (by omega), b99_6 L10, d1, if_neg (by omega), b99_9 L10, d1, if_pos (by omega), b99_14 L10 (by rw [d1]; omega) (by rw [d1, i0]; omega), d1, i0, ← hA, A1, up1_eq]
        rfl
      · rw [ic_t c, ic_f d, iK_0]
        refine RS_f E (fun a ha => by unfold ptK; rw [rowU_ne (by omega), rowU_ne (by omega)]) (by rw [k5, up1_ne (by decide)]) (by rw [k5, up1_ne (by decide)]) (fun a ha => Af a (by omega) (by omega)) ⟨⟨?_, fun k k0 k1 => ?_⟩, ?_, ?_⟩
        · rw [A1, up1_eq, k5, up1_eq]
        · rw [k5, up1_eq] at k1
          rw [A92, k99_]
          by_cases q : k = J 94 5
          · subst q; rw [up1_eq, up1_eq]
          · rw [up1_ne q, up1_ne q]
            exact d2 k k0 (by omega)
        · rw [A1, up1_ne (by decide), k5, up1_ne (by decide), d3]
        · rw [A1, up1_ne (by decide), k5, up1_ne (by decide), d4]
  · have e : Go 99 0 [.inr (.inl (some 1)), .inl x] [] (mI h I) = some (mI (hThr h) I, .inr 1) := by
      rw [b99_0]
      by_cases q : x < 0
      · rw [if_pos q, b99_5]
      · rw [if_neg q, b99_2, if_neg (by omega), b99_5]
    exact ⟨hThr h, I, by rw [ic_f c, e]; rfl, by rw [ic_f c]; exact RS_x E⟩
theorem INV_pt {x : Int} (V : INV n J) (c : 0 ≤ x ∧ x ≤ 9999) (d : J 94 5 ≠ 12) (hn : n ≤ 9999) : INV (n + 1) (ptK J x) := by
  have w := iv_D V
  have k5 : ptK J x 94 = up1 (J 94) 5 (J 94 5 + 1) := by unfold ptK; rw [rowU_eq]
  have k99_ : ptK J x 99 = up1 (J 99) (J 94 5) x := by unfold ptK; rw [rowU_ne (by decide), rowU_eq]
  have g8 := (iv_G V).2.2.2.1
  have v8 := iv_8 V
  refine INV_g V (fun a ha => by unfold ptK; rw [rowU_ne (by omega), rowU_ne (by omega)]) (by rw [k5, up1_ne (by decide)]) (by omega) ⟨by rw [k5, up1_eq]; have := w.1; omega, fun j j0 j1 => ?_⟩ ?_ ?_ ?_
  · rw [k5, up1_eq] at j1
    rw [k99_]
    by_cases q : j = J 94 5
    · subst q; rw [up1_eq]; exact c
    · rw [up1_ne q]; exact w.2 j j0 (by omega)
  · rw [k5, up1_ne (by decide)]; omega
  · rw [k5, up1_ne (by decide)]; exact iv_9 V
  · rw [k5, up1_ne (by decide)]; exact iv_41 V
theorem s99 {x : Int} (E : EV n h I I) (S : WSc I) (hn : n ≤ 9999) : STEP 99 [.inr (.inl (some 1)), .inl x] 189 [.inr (.inl (some 94)), .inl x] eB n h I :=
  STEP_mk (c := fun J => ptC J x) (v := fun J => J 94 5 + 1) (K := fun J => iK (ptC J x) (ptK J x) J) E S eB_i (fun J => ic_3 (by decide) (by decide) (by decide)) (fun J E => k99 E)
    (fun h2 I2 L V S J hJ => by
      have gJ : AW I2 J := by rw [hJ]; exact AW_t (AW_r I2)
      have VJ : INV n J := by rw [aw_INV gJ]; exact V
      have e5 : J 94 5 = I2 94 5 := gJ.2 5 (by decide)
      have e99 : J 99 = I2 99 := gJ.1 99 (by decide) (by decide)
      dsimp only
      rw [r189 L (iv_D V).1]
      unfold ptC
      rw [e5]
      by_cases c : 0 ≤ x ∧ x ≤ 9999
      · rw [if_neg (fun q => q c), ic_t c]
        by_cases d : I2 94 5 = 12
        · rw [if_pos d, ic_t d, iK_n (by decide)]
          exact ⟨_, _, rfl, tH_49, (fun q => absurd q (by decide)), fun a ha => tH_n (by omega), by rw [hJ]; exact aw_tJ I2 2, INV_s VJ, WSc_t S⟩
        · rw [if_neg d, ic_f d, iK_0]
          refine ⟨_, _, rfl, ?_, fun _ => rfl, fun a ha => ?_, ?_, INV_pt VJ c (by rw [e5]; exact d) hn, ?_⟩
          · rw [rowU_eq, up1_ne (by decide), tH_49]
          · rw [rowU_ne (by omega), rowU_ne (by omega), tH_n (by omega)]
          · unfold ptK
            rw [e5, e99, hJ]
            exact AW_r _
          · intro a a0 a1
            rw [rowU_ne (by omega), rowU_ne (by omega), tH_n (by omega)]
            exact S a a0 a1
      · rw [if_pos c, ic_f c, iK_n (by decide)]
        exact ⟨_, _, rfl, tH_49, (fun q => absurd q (by decide)), fun a ha => tH_n (by omega), by rw [hJ]; exact aw_tJ I2 1, INV_s VJ, WSc_t S⟩)
-- clear
def clK (J : Nat → Int → Int) : Nat → Int → Int := rowU J 94 (up1 (J 94) 5 0)
theorem WSc_94 {f : Int → Int} (S : WSc I) : WSc (rowU I 94 f) := fun a a0 a1 => by
  rw [rowU_ne (by omega)]
  exact S a a0 a1
theorem k100 {v1 : MV} (E : EV n h I J) : ∃ h1 I1, Go 100 0 [.inr (.inl (some 1)), v1] [] (mI h I) = some (mI h1 I1, oc eA 0 (J 94 5)) ∧ RS h I h1 I1 (clK J) := by
  obtain ⟨⟨d1, d2⟩, d3, d4⟩ := (ev_C E).2.1
  have A1 : zu2 I 1 11 0 1 = up1 (I 1) 11 0 := by rw [zu2_row, rowU_eq]
  have k5 : clK J 94 = up1 (J 94) 5 0 := rowU_eq
  refine ⟨h, zu2 I 1 11 0, by rw [b100_0 (ly_10 E.1), d1]; rfl, RS_f E (fun a ha => rowU_ne (by omega)) (by rw [k5, up1_ne (by decide)]) (by rw [k5, up1_ne (by decide)]) (fun a ha => by rw [zu2_row, rowU_ne (by omega)]) ⟨⟨by rw [A1, up1_eq, k5, up1_eq], fun k k0 k1 => by rw [k5, up1_eq] at k1; omega⟩, by rw [A1, up1_ne (by decide), k5, up1_ne (by decide), d3], by rw [A1, up1_ne (by decide), k5, up1_ne (by decide), d4]⟩⟩
theorem INV_cl (V : INV n J) : INV (n + 1) (clK J) := by
  have k5 : clK J 94 = up1 (J 94) 5 0 := rowU_eq
  have g8 := (iv_G V).2.2.2.1
  have v8 := iv_8 V
  refine INV_g V (fun a ha => rowU_ne (by omega)) (by rw [k5, up1_ne (by decide)]) (by omega) ⟨by rw [k5, up1_eq]; decide, fun j j0 j1 => by rw [k5, up1_eq] at j1; omega⟩ ?_ ?_ ?_
  · rw [k5, up1_ne (by decide)]; omega
  · rw [k5, up1_ne (by decide)]; exact iv_9 V
  · rw [k5, up1_ne (by decide)]; exact iv_41 V
theorem s100 (E : EV n h I I) (S : WSc I) : STEP 100 [.inr (.inl (some 1)), vU] 190 [.inr (.inl (some 94)), vU] eA n h I :=
  STEP_mk (c := fun _ => 0) (v := fun J => J 94 5) (K := fun J => clK J) E S eA_i (fun _ => Or.inl rfl) (fun J E => k100 E)
    (fun h2 I2 L V S J hJ => by
      have gJ : AW I2 J := by rw [hJ]; exact AW_t (AW_r I2)
      have VJ : INV n J := by rw [aw_INV gJ]; exact V
      dsimp only
      rw [r190 L]
      refine ⟨_, _, rfl, by rw [rowU_eq, up1_ne (by decide), tH_49], fun _ => (gJ.2 5 (by decide)).symm, fun a ha => by rw [rowU_ne (by omega)]; exact tH_n (by omega), ?_, INV_cl VJ, WSc_94 (WSc_t S)⟩
      unfold clK
      rw [hJ]
      exact AW_r _)
-- tick
noncomputable def tkC (x : Int) : Int := ic (1 ≤ x ∧ x ≤ 100) 0 1
def tkK (J : Nat → Int → Int) (x : Int) : Nat → Int → Int := rowU J 94 (up1 (J 94) 8 (J 94 8 + x))
theorem k114 {x : Int} (E : EV n h I J) : ∃ h1 I1, Go 114 0 [.inr (.inl (some 1)), .inl x] [] (mI h I) = some (mI h1 I1, oc eB (tkC x) (J 94 8 + x)) ∧ RS h I h1 I1 (iK (tkC x) (tkK J x) J) := by
  obtain ⟨⟨d1, d2⟩, d3, d4⟩ := (ev_C E).2.1
  have g8 := (iv_G (ev_V E)).2.2.2.1
  have A1 : ∀ z, zu2 I 1 12 z 1 = up1 (I 1) 12 z := fun z => by rw [zu2_row, rowU_eq]
  have k5 : tkK J x 94 = up1 (J 94) 8 (J 94 8 + x) := rowU_eq
  unfold tkC
  by_cases c : 1 ≤ x ∧ x ≤ 100
  · refine ⟨h, zu2 I 1 12 (J 94 8 + x), ?_, ?_⟩
    · rw [ic_t c, b114_0, if_neg (by omega), b114_3, if_pos (by omega), b114_7 (ly_10 E.1) (by rw [d3]; omega), d3, A1, up1_eq]; rfl
    · rw [ic_t c, iK_0]
      exact RS_f E (fun a ha => rowU_ne (by omega)) (by rw [k5, up1_ne (by decide)]) (by rw [k5, up1_ne (by decide)]) (fun a ha => by rw [zu2_row, rowU_ne (by omega)]) ⟨⟨by rw [A1, up1_ne (by decide), k5, up1_ne (by decide), d1], fun k k0 k1 => by
        rw [k5, up1_ne (by decide)] at k1
        rw [zu2_row, rowU_ne (by decide)]
        unfold tkK
        rw [rowU_ne (by decide)]
        exact d2 k k0 k1⟩, by rw [A1, up1_eq, k5, up1_eq], by rw [A1, up1_ne (by decide), k5, up1_ne (by decide), d4]⟩
  · have e : Go 114 0 [.inr (.inl (some 1)), .inl x] [] (mI h I) = some (mI (hThr h) I, .inr 1) := by
      rw [b114_0]
      by_cases q : x < 1
      · rw [if_pos q, b114_6]
      · rw [if_neg q, b114_3, if_neg (by omega), b114_6]
    exact ⟨hThr h, I, by rw [ic_f c, e]; rfl, by rw [ic_f c]; exact RS_x E⟩
theorem INV_tk {x : Int} (V : INV n J) (c : 1 ≤ x ∧ x ≤ 100) (hn : n ≤ 9998) : INV (n + 1) (tkK J x) := by
  have k5 : tkK J x 94 = up1 (J 94) 8 (J 94 8 + x) := rowU_eq
  have v8 := iv_8 V
  refine INV_g V (fun a ha => rowU_ne (by omega)) (by rw [k5, up1_ne (by decide)]) (by omega) ?_ ?_ ?_ ?_
  · unfold WD
    rw [k5, up1_ne (by decide)]
    unfold tkK
    rw [rowU_ne (by decide)]
    exact iv_D V
  · rw [k5, up1_eq]; omega
  · rw [k5, up1_ne (by decide)]; exact iv_9 V
  · rw [k5, up1_ne (by decide)]; exact iv_41 V
theorem s114 {x : Int} (E : EV n h I I) (S : WSc I) (hn : n ≤ 9998) : STEP 114 [.inr (.inl (some 1)), .inl x] 215 [.inr (.inl (some 94)), .inl x] eB n h I :=
  STEP_mk (c := fun _ => tkC x) (v := fun J => J 94 8 + x) (K := fun J => iK (tkC x) (tkK J x) J) E S eB_i (fun J => ic_01) (fun J E => k114 E)
    (fun h2 I2 L V S J hJ => by
      have gJ : AW I2 J := by rw [hJ]; exact AW_t (AW_r I2)
      have VJ : INV n J := by rw [aw_INV gJ]; exact V
      have e8 : J 94 8 = I2 94 8 := gJ.2 8 (by decide)
      dsimp only
      rw [r215 L (iv_G V).2.2.2.1]
      unfold tkC
      by_cases c : 1 ≤ x ∧ x ≤ 100
      · rw [aq_t c, ic_t c, iK_0]
        refine ⟨_, _, rfl, by rw [rowU_eq, up1_ne (by decide), tH_49], fun _ => by rw [e8], fun a ha => by rw [rowU_ne (by omega)]; exact tH_n (by omega), ?_, INV_tk VJ c hn, WSc_94 (WSc_t S)⟩
        unfold tkK
        rw [e8, hJ]
        exact AW_r _
      · rw [aq_f c, ic_f c, iK_n (by decide)]
        exact ⟨_, _, rfl, tH_49, (fun q => absurd q (by decide)), fun a ha => tH_n (by omega), by rw [hJ]; exact aw_tJ I2 1, INV_s VJ, WSc_t S⟩)
-- line
noncomputable def lnK (J : Nat → Int → Int) : Nat → Int → Int := rowU J 94 (up1 (J 94) 9 (b01 (J 94 9 = 0)))
theorem k135 (E : EV n h I J) : ∃ h1 I1, Go 135 0 [.inr (.inl (some 1))] [] (mI h I) = some (mI h1 I1, oc eA 0 (b01 (J 94 9 ≠ 0))) ∧ RS h I h1 I1 (lnK J) := by
  obtain ⟨⟨d1, d2⟩, d3, d4⟩ := (ev_C E).2.1
  have A1 : ∀ z, zu2 I 1 13 z 1 = up1 (I 1) 13 z := fun z => by rw [zu2_row, rowU_eq]
  have k5 : lnK J 94 = up1 (J 94) 9 (b01 (J 94 9 = 0)) := rowU_eq
  have b := b01_or (J 94 9 = 0)
  have nb : b01 (J 94 9 ≠ 0) = b01 (b01 (J 94 9 = 0) = 0) := b01_c (by rw [b01_e0])
  refine ⟨h, zu2 I 1 13 (b01 (J 94 9 ≠ 0)), ?_, RS_f E (fun a ha => rowU_ne (by omega)) (by rw [k5, up1_ne (by decide)]) (by rw [k5, up1_ne (by decide)]) (fun a ha => by rw [zu2_row, rowU_ne (by omega)]) ⟨⟨by rw [A1, up1_ne (by decide), k5, up1_ne (by decide), d1], fun k k0 k1 => by
        rw [k5, up1_ne (by decide)] at k1
        rw [zu2_row, rowU_ne (by decide)]
        unfold lnK
        rw [rowU_ne (by decide)]
        exact d2 k k0 k1⟩, by rw [A1, up1_ne (by decide), k5, up1_ne (by decide), d3], by rw [A1, up1_eq, k5, up1_eq, nb]⟩⟩
  have b2 := b01_or (J 94 9 ≠ 0)
  rw [b135_0 (ly_10 E.1), d4]
  by_cases c : J 94 9 = 0
  · rw [b01_t c, if_pos neg1_ne, b135_6, b135_7 (ly_10 E.1) (Or.inl rfl) (by rw [A1, up1_eq]; exact Or.inl rfl), A1, up1_eq, b01_f (p := J 94 9 ≠ 0) (fun q => q c)]
    rfl
  · rw [b01_f c, if_neg (fun t => t rfl), b135_4, b135_7 (ly_10 E.1) (Or.inr rfl) (by rw [A1, up1_eq]; exact Or.inr rfl), A1, up1_eq, b01_t (p := J 94 9 ≠ 0) c]
    rfl
theorem INV_ln (V : INV n J) : INV (n + 1) (lnK J) := by
  have k5 : lnK J 94 = up1 (J 94) 9 (b01 (J 94 9 = 0)) := rowU_eq
  have v8 := iv_8 V
  have g8 := (iv_G V).2.2.2.1
  refine INV_g V (fun a ha => rowU_ne (by omega)) (by rw [k5, up1_ne (by decide)]) (by omega) ?_ ?_ ?_ ?_
  · unfold WD
    rw [k5, up1_ne (by decide)]
    unfold lnK
    rw [rowU_ne (by decide)]
    exact iv_D V
  · rw [k5, up1_ne (by decide)]; omega
  · rw [k5, up1_eq]; exact b01_or _
  · rw [k5, up1_ne (by decide)]; exact iv_41 V
theorem s135 (E : EV n h I I) (S : WSc I) : STEP 135 [.inr (.inl (some 1))] 260 [.inr (.inl (some 94))] eA n h I :=
  STEP_mk (c := fun _ => 0) (v := fun J => b01 (J 94 9 ≠ 0)) (K := fun J => lnK J) E S eA_i (fun _ => Or.inl rfl) (fun J E => k135 E)
    (fun h2 I2 L V S J hJ => by
      have gJ : AW I2 J := by rw [hJ]; exact AW_t (AW_r I2)
      have VJ : INV n J := by rw [aw_INV gJ]; exact V
      have e9 : J 94 9 = I2 94 9 := gJ.2 9 (by decide)
      dsimp only
      rw [r260 L (iv_9 V), e9]
      refine ⟨_, _, rfl, by rw [rowU_eq, up1_ne (by decide), tH_49], fun _ => rfl, fun a ha => by rw [rowU_ne (by omega)]; exact tH_n (by omega), ?_, INV_ln VJ, WSc_94 (WSc_t S)⟩
      unfold lnK
      rw [e9, hJ]
      exact AW_r _)
end CAL2
