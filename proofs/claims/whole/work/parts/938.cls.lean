/-! ===== the calls (21): sending, to the end ===== -/
section OPS15
variable {n m : Int} {h h1 : HP} {I I1 J K M D : Nat → Int → Int}
theorem CC_0 {c : Nat} {s : Int} (h0 : I c 2 = 0) (hz : ∀ o, 0 ≤ o → o < 120 → K 128 (120 * s + o) = 0) : CC I K c s := by
  have e : chN K s = 0 := cN_0 120 (fun k k0 k1 q => q (hz k k0 (by omega)))
  refine ⟨⟨by rw [h0, e], by omega, by omega⟩, fun k k0 k1 => by omega, fun o o0 o1 q => absurd (hz o o0 o1) q, fun k j k0 k1 => by omega⟩
theorem k160b {u t r o : Int} {W H S : Int → Prop} {v4 : MV} (E : EV n h I J) (hn : n < 512) (hu : u = 0 ∨ u = 1) (ht : t = 1 - u) (hr : 0 ≤ r ∧ r ≤ 5) (i84 : I 84 = ind S) (i87 : I 87 = ind W) (i89 : I 89 = ind H) (j4 : J 134 = ind W) (j5 : J 135 = ind H) (j7 : J 137 = ind S) (hW : ∀ j, W j → 0 ≤ j ∧ j < J 94 0) :
    ∃ h5 I5, Go 160 31 [.inr (.inl (some 1)), .inr (.inl (some ((sto u)))), .inr (.inl (some ((sto t)))), .inl r, v4] [] (mI h I) = some (mI h5 I5, .inl (some (.inl (I 83 5)))) ∧ OWN h5 ∧ CPL h5 I5 (nF J u t r o) ∧ INV (n + 1) (nF J u t r o) ∧ XT h h5 5 311 ∧ ∀ c, 94 ≤ c → c ≤ 139 → I5 c = I c := by
  have ht2 : t = 0 ∨ t = 1 := by omega
  have su := sto_o (s := u)
  have st := sto_o (s := t)
  have Y := E.1
  have L10 := ly_10 Y
  have L8 := ly_8 Y st
  have L3 := ly_3 Y st
  have L4 := ly_4 Y st
  have V := ev_V E
  have T := iv_T V
  have hT := iv_t V
  have C := ev_C E
  have R := iv_R V
  have O := E.2.1
  have n140 := O.1
  have Cs := ev_s E ht2
  obtain ⟨x, hxx⟩ : ∃ x, x = J 115 (6 * u + r) := ⟨_, rfl⟩
  have hx := iv_WR V (6 * u + r) (by omega) (by omega)
  have hk := iv_WRk V (6 * u + r) (by omega) (by omega)
  rw [← hxx] at hx hk
  have e8 : I (sto u + 8) r = x - 1 := by rw [hxx]; exact (ev_N E hu).1 r hr.1 (by omega)
  have e12 : I 1 12 = J 94 8 := C.2.1.2.1
  have l0 := (iv_G V).2.2.2.2 t ht2
  have ln := iv_l V ht2
  have en := iv_eN (J := J) (s := t)
  -- the reference moves
  obtain ⟨A, g84, SA, NA, fA⟩ := k84 (h := h) (I := I) (J := J) (st := sto t) (s := t) (r := r) (x := x) (v4 := vU) (v5 := vU) (v6 := vU) st L8 L3 L4 Cs.2.1 (ev_N E ht2) ht2 (by omega) (by omega)
  obtain ⟨P, hP⟩ : ∃ P, P = bE J (6 * t + r) x := ⟨_, rfl⟩
  rw [← hP] at SA NA
  have fP : ∀ a, a ≠ 115 → a ≠ 119 → a ≠ 123 → a ≠ 124 → a ≠ 125 → P a = J a := fun a h1 h2 h3 h4 h5 => by rw [hP]; exact bE_f ⟨h1, h2, h3, h4, h5⟩
  have P94 : P 94 0 = J 94 0 := by rw [fP 94 (by decide) (by decide) (by decide) (by decide) (by decide)]
  have lowA : ∀ c, (c < sto t ∨ sto t + 31 < c) → A c = I c := fun c hc => fA c (by omega) (by omega) (by omega)
  have BJ : ∀ X : Nat → Int → Int, (∀ c, (c < sto t ∨ sto t + 31 < c) → X c = I c) → BC X J := fun X q => by
    rw [BC_I (I := I) (fun c hc => q c (by omega))]
    exact C.1
  have BA : BC A P := by
    rw [BC_J (J := J) P94 (fP 95 (by decide) (by decide) (by decide) (by decide) (by decide)) (fP 96 (by decide) (by decide) (by decide) (by decide) (by decide)) (fP 97 (by decide) (by decide) (by decide) (by decide) (by decide)) (fP 98 (by decide) (by decide) (by decide) (by decide) (by decide))]
    exact BJ A lowA
  have RP : RB P := c_RB (fun a ha => fP a (by omega) (by omega) (by omega) (by omega) (by omega)) R
  have WP : WV P := by
    have w := iv_WV V
    refine ⟨c_V1 (fun a ha => fP a (by omega) (by omega) (by omega) (by omega) (by omega)) (iv_V1 V), ?_⟩
    rw [fP 94 (by decide) (by decide) (by decide) (by decide) (by decide), fP 95 (by decide) (by decide) (by decide) (by decide) (by decide), fP 118 (by decide) (by decide) (by decide) (by decide) (by decide)]
    exact w.2
  have g29 := k29 (h := h) (I := A) (J := P) (n := sto t + 7) (s := t) (W := W) (H := H) (v2 := vU) (v3 := vU) (v4 := vU) (ly_0 Y) (ly_83 Y) (ly_86 Y) (ly_88 Y) L4 (by omega) (by omega) BA RP WP (ShC_N NA (by rw [P94]; exact hT.2)) (by rw [lowA 87 (by omega)]; exact i87) (by rw [lowA 89 (by omega)]; exact i89)
  rw [P94] at g29
  obtain ⟨A2, hA2⟩ : ∃ A2, A2 = rowU A (sto t + 7 + 3) (tSh P W H t (J 94 0) (A (sto t + 7 + 3))) := ⟨_, rfl⟩
  rw [← hA2] at g29
  have fA2 : ∀ c, c ≠ sto t + 10 → A2 c = A c := fun c hc => by rw [hA2, rowU_ne hc]
  -- the choice
  obtain ⟨A3, hA3⟩ : ∃ A3, A3 = @ite _ (tOt P W H t (J 94 0)) (Classical.propDecidable _) (zu2 A2 (sto t + 21) 2 0) A2 := ⟨_, rfl⟩
  have fA3 : ∀ c, c ≠ sto t + 21 → A3 c = A2 c := fun c hc => by
    rw [hA3]
    split
    · rw [zu2_row, rowU_ne hc]
    · rfl
  have lowA3 : ∀ c, (c < sto t ∨ sto t + 31 < c) → A3 c = I c := fun c hc => by rw [fA3 c (by omega), fA2 c (by omega), lowA c hc]
  have diskA3 : ∀ c, (sto t + 1 ≤ c ∧ c ≤ sto t + 6) ∨ (sto t + 12 ≤ c ∧ c ≤ sto t + 20) ∨ 140 ≤ c → A3 c = I c := fun c hc => by rw [fA3 c (by omega), fA2 c (by omega), fA c (by omega) (by omega) (by omega)]
  have D0 := (DC_n.mp Cs.1).1
  have DX : ∀ X : Nat → Int → Int, (∀ c, c ≠ sto t + 1 + 10 → X c = A3 c) → DN h X J (sto t + 1) t := fun X q => DNk_I (n := J 104 t) O (by omega) (fun c hc => by rw [q c (by omega), diskA3 c (by omega)]) D0
  have g31 := k31 (h := h) (I := A3) (J := J) (d := sto t + 1) (s := t) (W := W) (S := S) (v2 := vU) (v3 := vU) (ly_0 Y) (ly_83 Y) (ly_86 Y) L3 L4 (by omega) (BJ A3 lowA3) R (by rw [lowA3 87 (by omega)]; exact i87) (by rw [lowA3 84 (by omega)]; exact i84) (fun X o q o0 o1 => k37f L3 (DX X q) (iv_M V) T.2.2.2.1 T.2.1 T ht2 ⟨o0, o1⟩)
  obtain ⟨A4, hA4⟩ : ∃ A4, A4 = rowU A3 (sto t + 1 + 10) (tPr J W S t (J 94 0) (A3 (sto t + 1 + 10))) := ⟨_, rfl⟩
  rw [← hA4] at g31
  have fA4 : ∀ c, c ≠ sto t + 11 → A4 c = A3 c := fun c hc => by rw [hA4, rowU_ne hc]
  -- the reference's memory
  obtain ⟨B, hB⟩ : ∃ B, B = bE (dO J t 4 o) (6 * t + r) x := ⟨_, rfl⟩
  have hQ := IVX_nM (t := t) (r := r) (x := x) (o := o) V (by omega) ht2 (by omega) hx hk j4 hW
  rw [← hB] at hQ
  obtain ⟨IX, SK, i6, i7⟩ := hQ
  have fBP : ∀ a, (a ≤ 100 ∨ (110 < a ∧ a < 120) ∨ 122 < a) → B a = P a := fun a ha => by
    rw [hB, hP]
    by_cases c : (115 ≤ a ∧ a ≤ 119) ∨ 123 ≤ a
    · exact bE_dO c
    · rw [bE_f (by omega), bE_f (by omega), dO_f (by omega)]
  have fBJ : ∀ a, a ≠ 115 → a ≠ 119 → a ≠ 123 → a ≠ 124 → a ≠ 125 → (a ≤ 100 ∨ (110 < a ∧ a < 120) ∨ 122 < a) → B a = J a := fun a h1 h2 h3 h4 h5 ha => by rw [fBP a ha, fP a h1 h2 h3 h4 h5]
  have B94 : B 94 0 = J 94 0 := by rw [fBJ 94 (by decide) (by decide) (by decide) (by decide) (by decide) (by decide)]
  have b4 : B 134 = ind W := by rw [fBJ 134 (by decide) (by decide) (by decide) (by decide) (by decide) (by decide)]; exact j4
  have b5 : B 135 = ind H := by rw [fBJ 135 (by decide) (by decide) (by decide) (by decide) (by decide) (by decide)]; exact j5
  have b7 : B 137 = ind S := by rw [fBJ 137 (by decide) (by decide) (by decide) (by decide) (by decide) (by decide)]; exact j7
  obtain ⟨m6, m7⟩ := nM_6 (B := B) (t := t)
  rw [B94] at m6 m7
  have mf : ∀ a, a ≠ 116 → a ≠ 117 → nM B t a = B a := fun a => nM_f
  have thB : ∀ o, 0 ≤ o → o < J 94 0 → (Th B t o ↔ Th J t o) := fun z z0 z1 => by
    rw [← Th_dO (a := 4) (v := o) ⟨z0, z1⟩ (by omega)]
    unfold Th
    rw [HE_cc (J := dO J t 4 o) (K := B) (fun a ha => by rw [hB]; exact bE_f (by omega)), show B 101 = dO J t 4 o 101 by rw [hB]; exact bE_f (by decide)]
  have N4 : NC A4 (nM B t) (sto t + 1 + 6) t := by
    unfold NC
    rw [m6, m7, mf 115 (by decide) (by decide), mf 118 (by decide) (by decide), mf 119 (by decide) (by decide), fBP 115 (by decide), fBP 118 (by decide), fBP 119 (by decide)]
    refine ⟨fun k k0 k1 => ?_, ?_, fun z z0 z1 => ?_⟩
    · rw [fA4 _ (by omega), fA3 _ (by omega), fA2 _ (by omega)]
      exact NA.1 k k0 k1
    · rw [fA4 _ (by omega), fA3 _ (by omega), fA2 _ (by omega)]
      exact NA.2.1
    · obtain ⟨z2, z3, z4⟩ := NA.2.2 z z0 z1
      refine ⟨?_, ?_, ?_⟩
      · rw [fA4 _ (by omega), fA3 _ (by omega), fA2 _ (by omega)]
        exact z2
      · have e : A4 (sto t + 1 + 6 + 3) = tSh P W H t (J 94 0) (A (sto t + 7 + 3)) := by
          rw [fA4 _ (by omega), fA3 _ (by omega), hA2]
          exact rowU_eq
        rw [e]
        exact n6_W (fun a ha => fBP a (by omega)) b4 b5 (by rw [fBP 116 (by decide)]; exact z3) z0
      · have e : A4 (sto t + 1 + 6 + 4) = tPr J W S t (J 94 0) (A3 (sto t + 1 + 10)) := by
          rw [hA4]
          exact rowU_eq
        have e3 : A3 (sto t + 1 + 10) = A (sto t + 7 + 4) := by rw [fA3 _ (by omega), fA2 _ (by omega)]
        have f7 : B 117 = J 117 := fBJ 117 (by decide) (by decide) (by decide) (by decide) (by decide) (by decide)
        rw [e, e3]
        exact n7_W (fBJ 95 (by decide) (by decide) (by decide) (by decide) (by decide) (by decide)) b4 b7 thB (by rw [fBP 117 (by decide)]; exact z4) (by rw [f7]; exact iv_117 V _) z0
  have D4 : DN h A4 J (sto t + 1) t := DX A4 (fun c hc => fA4 c (by omega))
  obtain ⟨h5, I5, g45, D5, R5, O5, X5, r5, f45⟩ := k45 (h := h) (I := A4) (J := J) (M := nM B t) (d := sto t + 1) (s := t) (n := o) (v1 := vU) (by omega) (ly_S Y) L3 (ly_4k Y st) L4 O D4 (iv_Q V) T (iv_Z V) (iv_RD V ht2) ht2 (fun c hc => by rw [mf c (by omega) (by omega), hB]; exact bE_f (by omega)) N4 (by rw [m6]; exact i6) (by rw [m7]; exact i7) (by
    unfold WN
    rw [mf 118 (by decide) (by decide), fBJ 118 (by decide) (by decide) (by decide) (by decide) (by decide) (by decide)]
    exact T.2.2.1)
  rw [← nK_M] at D5 R5
  have Y5 := LYB_X X5 Y
  have own : ∀ c, c < 140 → ∀ k a, hR h (sto t + 1 + 19) k = some a → c < a ∨ a + 4 < c := fun c hc k a ha => by
    have := (O.2.1 _ _ _ (OAr_19 (by omega)) ha).1.1
    omega
  have lo5 : ∀ c, c < 140 → (c ≤ sto t ∨ sto t + 21 ≤ c) → I5 c = A4 c := fun c hc h2 => f45 c (by omega) (by omega) (own c hc)
  have KB : ∀ a, (a < 120 ∨ 122 < a) → a ≠ 116 → a ≠ 117 → nK B t a = B a := fun a ha h6 h7 => by rw [nK_M, kN_f (by omega) (by omega) (by omega), mf a h6 h7]
  have SC5 : SC I5 (nK B t) (sto t) t := by
    rw [SC_J (J := P) (fun a ha => by rw [KB a (by omega) (by omega) (by omega), fBP a (by omega)]), SC_I (I := A) (fun c hc => by rw [lo5 c (by omega) (by omega), fA4 c (by omega), fA3 c (by omega), fA2 c (by omega)])]
    exact SA
  have K94 : ∀ a, (94 ≤ a ∧ a ≤ 100) ∨ a = 132 → nK B t a = J a := fun a ha => by rw [KB a (by omega) (by omega) (by omega), fBJ a (by omega) (by omega) (by omega) (by omega) (by omega) (by omega)]
  have z20 : owz (sto t + 20) = 4 := if_neg (by omega)
  have fin : ∀ K : Nat → Int → Int, (∀ a, a ≠ 128 → K a = nK B t a) → SU (nK B t) K (1 - t) → CS h5 I5 K (sto t) t → OWN h5 ∧ CPL h5 I5 K ∧ RD2 K ∧ ∀ c, 94 ≤ c → c ≤ 139 → I5 c = I c := fun K fK sK CK => by
    have S1 : SU J K (1 - t) := SU_t (SK (1 - t) (by omega) (by omega)) sK
    have Rs := RS_nt (K := K) E ht2 (fun a ha => by rw [fK a (by omega), K94 a ha]) S1 CK X5 (by decide) (by decide) O5 (fun x k ox _ hx => r5 x k ox hx) (fun c hc hN ha => by
      rw [f45 c (by omega) hN (fun k a hka => by
        have := ha (sto t + 20) k a (Or.inr rfl) hka
        rw [z20] at this
        exact this), fA4 c (by omega), lowA3 c hc])
    exact ⟨Rs.2.1, Rs.2.2.1, RD2_of V ht2 S1 (RD_c (J := nK B t) (fun a ha => fK a (by omega)) R5), Rs.2.2.2⟩
  have eF : nF J u t r o = nE B t := by
    unfold nF
    rw [hB, hxx]
  have key : OWN h5 ∧ CPL h5 I5 (nF J u t r o) ∧ INV (n + 1) (nF J u t r o) ∧ ∀ c, 94 ≤ c → c ≤ 139 → I5 c = I c := by
    rw [eF]
    unfold nE
    rw [B94]
    by_cases c : nT B t (J 94 0)
    · rw [if_pos c]
      obtain ⟨K, hK⟩ : ∃ K, K = rowU (nK B t) 128 (fillR (B 128) (120 * t) (120 * t + 120) (fun _ => 0)) := ⟨_, rfl⟩
      rw [← hK]
      have k128 : K 128 = fillR (B 128) (120 * t) (120 * t + 120) (fun _ => 0) := by rw [hK, rowU_eq]
      have tO : tOt P W H t (J 94 0) := (nT_W (fun a ha => fBP a (by omega)) b4 b5).mpr c
      have fK : ∀ a, a ≠ 128 → K a = nK B t a := fun a ha => by rw [hK, rowU_ne ha]
      have b128 : nK B t 128 = B 128 := KB 128 (by decide) (by decide) (by decide)
      have c0 : I5 (sto t + 21) 2 = 0 := by
        rw [lo5 _ (by omega) (by omega), fA4 _ (by omega), hA3, if_pos tO, zu2_row, rowU_eq, up1_eq]
      have DK : DC h5 I5 K (sto t + 1) t := by
        have q := DC_n.mp D5
        refine DC_n.mpr ⟨?_, ?_⟩
        · have w : DNk h5 I5 K (sto t + 1) t (nK B t 104 t) := DNk_S (n := nK B t 104 t) (ix_T IX) ht2 ((ix_T IX).2.2.2.2.2.1 t ht2).1 (fun a ha => fK a (by omega)) (fun z _ _ => ⟨fun k _ _ => by rw [fK 120 (by decide)], by rw [fK 122 (by decide)], fun z _ _ => by rw [fK 121 (by decide)]⟩) q.1
          have e : K 104 t = nK B t 104 t := by rw [fK 104 (by decide)]
          rw [← e] at w
          exact w
        · have w := q.2
          unfold NC at w ⊢
          rw [fK 115 (by decide), fK 116 (by decide), fK 117 (by decide), fK 118 (by decide), fK 119 (by decide)]
          exact w
      have SK5 : SC I5 K (sto t) t := by
        unfold SC eN at SC5 ⊢
        rw [fK 119 (by decide), fK 123 (by decide), fK 124 (by decide), fK 125 (by decide), fK 126 (by decide), fK 127 (by decide), fK 129 (by decide), fK 130 (by decide), fK 131 (by decide)]
        exact SC5
      obtain ⟨q1, q2, q3, q4⟩ := fin K fK (fun a a0 a1 j j0 j1 => by
        by_cases c8 : a = 128
        · subst c8
          rw [show wd 128 = 120 from rfl] at j0 j1
          rw [k128, b128]
          exact fillR_out (by omega)
        · rw [fK a c8]) ⟨DK, SK5, CC_0 c0 (fun z z0 z1 => by rw [k128]; exact fillR_in (by omega))⟩
      exact ⟨q1, q2, INV_of (by rw [hK]; exact IX) q3.1 q3.2, q4⟩
    · rw [if_neg c]
      have tO : ¬tOt P W H t (J 94 0) := fun q => c ((nT_W (fun a ha => fBP a (by omega)) b4 b5).mp q)
      have e6 : nK B t 116 = J 116 := by
        rw [nK_M, kN_f (by decide) (by decide) (by decide), m6]
        funext j
        unfold n6 fillR
        rw [show B 116 = J 116 from fBJ 116 (by decide) (by decide) (by decide) (by decide) (by decide) (by decide)]
        by_cases d : 120 * t ≤ j ∧ j < 120 * t + J 94 0
        · rw [if_pos d]
          unfold g6
          by_cases e : B 134 (j - 120 * t) ≠ 0 ∧ B 95 (j - 120 * t) = 2
          · rw [if_pos e]
            refine Classical.byContradiction fun q => c ⟨j - 120 * t, by omega, e.1, e.2, fun w => q ?_⟩
            rw [← w, show 120 * t + (j - 120 * t) = j by omega]
            exact congrFun (fBJ 116 (by decide) (by decide) (by decide) (by decide) (by decide) (by decide)) j
          · rw [if_neg e]
            exact congrFun (fBJ 116 (by decide) (by decide) (by decide) (by decide) (by decide) (by decide)) j
        · rw [if_neg d]
      obtain ⟨q1, q2, q3, q4⟩ := fin (nK B t) (fun _ _ => rfl) SU_rf ⟨D5, SC5, by
        rw [CC_I (I := I) (fun c c0 c1 => by
          rw [lo5 c (by omega) (by omega), fA4 c (by omega), hA3, if_neg tO, fA2 c (by omega), fA c (by omega) (by omega) (by omega)])]
        refine CC_f (fun a ha => ?_) Cs.2.2
        by_cases c6 : a = 116
        · subst c6; exact e6
        · rw [KB a (by omega) c6 (by omega), fBJ a (by omega) (by omega) (by omega) (by omega) (by omega) (by omega)]⟩
      exact ⟨q1, q2, INV_of IX q3.1 q3.2, q4⟩
  refine ⟨h5, I5, ?_, key.1, key.2.1, key.2.2.1, X5, key.2.2.2⟩
  have e83 : I5 83 5 = I 83 5 := by rw [lo5 83 (by omega) (by omega), fA4 83 (by omega), lowA3 83 (by omega)]
  have tail : Go 160 53 [.inr (.inl (some 1)), .inr (.inl (some ((sto u)))), .inr (.inl (some ((sto t)))), .inl r, v4] [] (mI h A3) = some (mI h5 I5, .inl (some (.inl (I 83 5)))) := by
    rw [b160_53 L10 L8 (ly_83 Y), g31, caln_v, b160_58 L8 L3, g45, caln_v, b160_61 (ly_10 Y5) (ly_83 Y5), e83]
  rw [b160_31 (ly_8 Y su) (ly_3 Y su) (ly_4 Y su) (by omega) L10 L8, e8, e12, g84, caln_v, b160_42 L10 L8 L3 (ly_83 Y), g29, caln_r, b160_48]
  by_cases c : tOt P W H t (J 94 0)
  · rw [b01_t c, if_neg (by decide), b160_49 L8 (ly_1 Y st), ← tail, hA3, if_pos c]
  · rw [b01_f c, if_pos rfl, ← tail, hA3, if_neg c]
end OPS15
