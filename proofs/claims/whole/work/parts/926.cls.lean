/-! ===== the calls (9): mend, sweep ===== -/
section OPS4
variable {n : Int} {h h1 : HP} {I I1 J K : Nat → Int → Int}
theorem EV_w (g : AW J K) (E : EV n h I J) : EV n h I K := ⟨E.1, E.2.1, CPL_w g (iv_T E.2.2.2) E.2.2.1, by rw [aw_INV g]; exact E.2.2.2⟩
theorem wW_2 {s o : Int} (E : EV n h I J) (hs : s = 0 ∨ s = 1) (ho : 0 ≤ o ∧ o < J 94 0) : ∃ I1, Go 79 0 [.inr (.inl (some ((sto s)))), .inl o, .inl (J 94 8)] [] (mI h I) = some (mI h I1, .inl none) ∧ EV n h I1 (wW J s o) ∧ ∀ c, c < sto s ∨ sto s + 31 < c → I1 c = I c := by
  have st := sto_o (s := s)
  have V := ev_V E
  have T := iv_T V
  have hT := iv_t V
  have Cs := ev_s E hs
  obtain ⟨I1, e1, D1, R1, S1, f1⟩ := k79 (h := h) (I := I) (J := J) (st := sto s) (s := s) (o := o) st (ly_8 E.1 st) (ly_3 E.1 st) (ly_4k E.1 st) E.2.1 Cs.1 Cs.2.1 (iv_Q V) T (iv_Z V) (iv_RD V hs) (iv_M V) (iv_P V) hs (by omega) (iv_8 V).1
  have S := SU_wW (J := J) (s := s) (u := 1 - s) (o := o) (IVX_of V) hs (by omega) (by omega) (by omega)
  have wf : ∀ a, a < 101 ∨ (107 < a ∧ a < 110) ∨ (110 < a ∧ a < 120) ∨ (122 < a ∧ a ≠ 126) → wW J s o a = J a := fun a ha => wW_f ha
  have R := RS_op (I1 := I1) (K := wW J s o) E hs (fun a ha => wf a (by omega)) S ⟨D1, S1, by
    rw [CC_I (I := I) (fun c c0 c1 => f1 c (by omega))]
    exact CC_f (fun a ha => wf a (by omega)) Cs.2.2⟩ (fun c hc => f1 c (by omega))
  have X := RD2_of V hs S R1
  exact ⟨I1, e1, ⟨E.1, E.2.1, R.2.2.1, INV_of (IVX_wW (IVX_of V) hs ho) X.1 X.2⟩, fun c hc => f1 c (by omega)⟩
theorem EV_RS (E : EV n h I J) (E1 : EV n h I1 K) (hI : ∀ c, 94 ≤ c → c ≤ 139 → I1 c = I c) : RS h I h I1 K := ⟨XT_w (XT_r h) (by decide) (by decide), E.2.1, E1.2.2.1, hI⟩
-- mend
noncomputable def mdC (J : Nat → Int → Int) (s : Int) : Int := ic (s = 0 ∨ s = 1) (ic (J 94 9 = 0) 0 2) 1
noncomputable def mdK (J : Nat → Int → Int) (s : Int) : Nat → Int → Int := iP ((s = 0 ∨ s = 1) ∧ J 94 9 = 0) (MD J s (eM J s) (mN J s).toNat).1 J
theorem k141 {s : Int} {v2 v3 v4 v5 v6 : MV} (E : EV n h I J) : ∃ h1 I1, Go 141 0 [.inr (.inl (some 1)), .inl s, v2, v3, v4, v5, v6] [] (mI h I) = some (mI h1 I1, oc eC (mdC J s) (MD J s (eM J s) (mN J s).toNat).2) ∧ RS h I h1 I1 (mdK J s) ∧ INV n (mdK J s) := by
  have st := sto_o (s := s)
  have su := sto_o (s := 1 - s)
  have L10 := ly_10 E.1
  have V := ev_V E
  have hT := iv_t V
  have d4 := (ev_C E).2.1.2.2
  unfold mdC mdK
  by_cases hs : s = 0 ∨ s = 1
  · have hu : 1 - s = 0 ∨ 1 - s = 1 := by omega
    by_cases up : J 94 9 = 0
    · rw [ic_t hs, ic_t up, iP_t ⟨hs, up⟩]
      have EM := eM_s V hs
      obtain ⟨e, he⟩ : ∃ e, e = eM J s := ⟨_, rfl⟩
      rw [← he] at EM ⊢
      have E1 := EV_75 E (Mi_1 E hs)
      obtain ⟨A, hA⟩ : ∃ A, A = rowU I 75 (ind (Mi J s)) := ⟨_, rfl⟩
      rw [← hA] at E1
      have A75 : A 75 = ind (Mi J s) := by rw [hA, rowU_eq]
      obtain ⟨b, hb⟩ : ∃ b, b = A 9 := ⟨_, rfl⟩
      have EN := ev_nm E1
      rw [← hb] at EN
      have t := TO_nm (iv_N V) (T := fun j => 0 ≤ j ∧ j < J 94 0) (fun j q => q)
      have hm : 0 ≤ mN J s := (cN_b _).1
      have fl := FLT t EN EM (fun j q => Mi_r (iv_R V).1 (iv_WR V) hs j q) hm
      have fn := FLT_n t EN EM (fun j q => Mi_r (iv_R V).1 (iv_WR V) hs j q) hm hT.1
      have key := lpE (fun k (z : (Nat → Int → Int) × MV) => Go 141 19 [.inr (.inl (some 1)), .inl s, .inr (.inl (some ((sto s)))), .inr (.inl (some ((sto (1 - s))))), .inl (MD J s e (cN (fun i => Mi J s (b i)) k.toNat).toNat).2, .inl k, z.2] [] (mI h z.1))
        (fun k z => EV n h z.1 (MD J s e (cN (fun i => Mi J s (b i)) k.toNat).toNat).1 ∧ ∀ c, c < sto s ∨ sto s + 31 < c → z.1 c = A c) 0 (J 94 0) hT.1 ?_ (A, v6) ⟨E1, fun _ _ => rfl⟩
      · obtain ⟨⟨B, w⟩, e1, q1, q2⟩ := key
        dsimp only at e1 q1 q2
        rw [fn] at e1 q1
        have B27 : B 2 7 = J 94 0 := by rw [q2 2 (by omega)]; exact (ev_B E1).1
        refine ⟨h, B, ?_, EV_RS E q1 (fun c c0 c1 => by rw [q2 c (by omega), hA, rowU_ne (by omega)]), ev_V q1⟩
        rw [b141_0 L10, k142 E.1 hs, caln_r, b141_3 L10, d4, b01_t up, if_pos neg1_ne, b141_8 L10, k143 E.1 hs, caln_r, b141_11 L10, k158 E hs, caln_v, b141_15, ← hA]
        refine e1.trans ?_
        rw [b141_19 L10 (ly_0 E.1), B27, if_pos (Int.le_refl _), b141_49, oc_0]
      · rintro k ⟨B, w⟩ k0 k1 ⟨q1, q2⟩
        dsimp only at q1 q2 ⊢
        obtain ⟨c, hc⟩ : ∃ c, c = cN (fun i => Mi J s (b i)) k.toNat := ⟨_, rfl⟩
        have cs : cN (fun i => Mi J s (b i)) (k + 1).toNat = cN (fun i => Mi J s (b i)) k.toNat + b01 (Mi J s (b k)) := cN_s k0
        have cb := cN_b (P := fun i => Mi J s (b i)) k.toNat
        rw [← hc] at q1 cs cb ⊢
        obtain ⟨M, hM⟩ : ∃ M, M = (MD J s e c.toNat).1 := ⟨_, rfl⟩
        rw [← hM] at q1
        have B27 : B 2 7 = J 94 0 := by rw [q2 2 (by omega)]; exact (ev_B E1).1
        have B9 : B 9 = b := by rw [q2 9 (by omega), hb]
        have B75 : B 75 (b k) = b01 (Mi J s (b k)) := by rw [q2 75 (by omega), A75]; rfl
        have br := EN.1 k k0 k1
        have f4 := (fl k.toNat (by omega)).2.2.2
        rw [show ((k.toNat : Nat) : Int) = k by omega] at f4
        have M94 : M 94 0 = J 94 0 := by
          have := (ev_B q1).1
          rw [← this, B27]
        rw [b141_19 L10 (ly_0 E.1), B27, if_neg (by omega), b141_24 L10 (ly_0 E.1) (by omega) (ly_74 E.1) (by rw [B9]; omega), B9, B75]
        by_cases m : Mi J s (b k)
        · obtain ⟨g1, g2⟩ := f4 k1 m
          rw [← hc] at g1 g2
          rw [b01_t m] at cs ⊢
          have MS := MD_s (M := J) (s := s) (e := e) cb.1
          rw [← hM, g2] at MS
          rw [cs]
          obtain ⟨N, hN⟩ : ∃ N, N = zu2 M 133 (b k) 0 := ⟨_, rfl⟩
          rw [← hN] at MS
          have gN : AW M N := by rw [hN, zu2_row]; exact AW_U (AW_r M) (Or.inl (by decide))
          have EN1 := EV_w gN q1
          have VN := ev_V EN1
          rw [if_neg neg1_ne, b141_36 (ly_8 E.1 su) (ly_3 E.1 su), k38 (ly_3 E.1 su) (ev_s EN1 hu).1 (iv_M VN) (iv_T VN).2.2.2.1 (iv_P VN) (iv_T VN).2.1 hu (by omega), caln_r, b141_40]
          by_cases g : Gd N (1 - s) (b k)
          · have e2 : (MD J s e (c + 1).toNat).1 = wW N s (b k) ∧ (MD J s e (c + 1).toNat).2 = (MD J s e c.toNat).2 + 1 := by
              rw [MS, b01_t g]
              refine ⟨?_, rfl⟩
              unfold md1
              rw [if_pos g]
            have d3 := (ev_C EN1).2.1.2.1
            have N94 : N 94 0 = J 94 0 := by rw [aw_0 gN, M94]
            obtain ⟨B1, e3, E3, f3⟩ := wW_2 (o := b k) EN1 hs (by omega)
            have mb := MD_b (M := J) (s := s) (e := e) c.toNat
            refine ⟨(B1, .inl (b k)), ?_, by rw [e2.1]; exact E3, fun a ha => by dsimp only; rw [f3 a ha, q2 a ha]⟩
            dsimp only
            rw [b01_t g, if_neg neg1_ne, b141_41 L10 (ly_8 E.1 st), d3, e3, caln_v, b141_46 (by omega), b141_47 (by omega), e2.2]
          · have e2 : (MD J s e (c + 1).toNat).1 = N ∧ (MD J s e (c + 1).toNat).2 = (MD J s e c.toNat).2 := by
              rw [MS, b01_f g]
              refine ⟨?_, Int.add_zero _⟩
              unfold md1
              rw [if_neg g]
            refine ⟨(B, .inl (b k)), ?_, by rw [e2.1]; exact EN1, q2⟩
            dsimp only
            rw [b01_f g, if_pos rfl, b141_47 (by omega), e2.2]
        · rw [b01_f m] at cs ⊢
          rw [cs, Int.add_zero, if_pos rfl, b141_47 (by omega)]
          exact ⟨(B, .inl (b k)), rfl, by rw [← hM]; exact q1, q2⟩
    · rw [ic_t hs, ic_f up, iP_f (fun q => up q.2)]
      exact ⟨hThr h, I, by rw [b141_0 L10, k142 E.1 hs, caln_r, b141_3 L10, d4, b01_f up, if_neg (fun t => t rfl), b141_7]; rfl, RS_x E, V⟩
  · rw [ic_f hs, iP_f (fun q => hs q.1)]
    exact ⟨hThr h, I, by rw [b141_0 L10, k142x hs, caln_x]; rfl, RS_x E, V⟩
theorem s141 {s : Int} (E : EV n h I I) (S : WSc I) : STEP 141 [.inr (.inl (some 1)), .inl s, vU, vU, vU, vU, vU] 273 [.inr (.inl (some 94)), .inl s, vU, vU] eC n h I :=
  STEP_mkx (c := fun J => mdC J s) (v := fun J => (MD J s (eM J s) (mN J s).toNat).2) (K := fun J => mdK J s) (X := INV n) E S eC_i (fun J => ic_3 (by decide) (by decide) (by decide)) (fun J E => k141 E)
    (fun h2 I2 L V S => by
      obtain ⟨J, hJ⟩ : ∃ J, J = rowU (tH I2 0) 133 (ind (Mi I2 s)) := ⟨_, rfl⟩
      have g : AW I2 J := by rw [hJ]; exact AW_U (AW_t (AW_r I2)) (Or.inl (by decide))
      have V2 : INV n J := by rw [aw_INV g]; exact V
      have bad : ∀ t : Int, AW J (tH I2 t) := fun t => AW_tr (AW_s g) (AW_t (AW_r I2))
      have f : ∀ a, a ≠ 94 → a ≠ 133 → J a = I2 a := fun a h1 h2 => by rw [hJ, rowU_ne h2, tH_n h1]
      have j94 : J 94 = tH I2 0 94 := by rw [hJ, rowU_ne (by decide)]
      rw [r273 (e := eM I2 s) L (iv_T V) (WSc_133e S) (iv_WR V) (iv_N V) (fun hs => eM_s V hs)]
      refine ⟨J, ?_⟩
      unfold mdC mdK
      dsimp only
      rw [aw_eM g, aw_mN g, g.2 9 (by decide)]
      by_cases hs : s = 0 ∨ s = 1
      · rw [if_pos hs, ic_t hs]
        by_cases d : I2 94 9 = 0
        · rw [aq_t d, ic_t d, iP_t ⟨hs, d⟩, ← hJ]
          have mf : ∀ a, ((a < 101 ∨ (107 < a ∧ a < 110) ∨ (110 < a ∧ a < 120) ∨ (122 < a ∧ a ≠ 126)) ∧ a ≠ 133) → (MD J s (eM I2 s) (mN I2 s).toNat).1 a = J a := fun a ha => MD_f ha _
          refine ⟨_, _, g, rfl, by rw [mf 94 (by decide), j94, tH_49], fun _ => rfl, fun a ha => by rw [mf a (by omega), f a (by omega) (by omega)], AW_r _, fun W => INV_s W, fun a a0 a1 => ?_⟩
          by_cases c : a = 133
          · subst c
            refine ⟨Lf (Mi I2 s) (eM I2 s) (mN I2 s).toNat, fun j q => ?_, MD_133 (by rw [hJ, rowU_eq]) _⟩
            have := Mi_r (iv_R V).1 (iv_WR V) hs j q.1
            have := iv_t V
            omega
          · rw [mf a (by omega), f a (by omega) c]
            exact S a a0 a1
        · rw [aq_f d, ic_f d, iP_f (fun q => d q.2)]
          exact ⟨_, _, g, rfl, tH_49, (fun q => absurd q (by decide)), fun a ha => tH_n (by omega), bad 2, fun _ => INV_s V2, WSc_t S⟩
      · rw [if_neg hs, ic_f hs, iP_f (fun q => hs q.1)]
        exact ⟨_, _, g, rfl, tH_49, (fun q => absurd q (by decide)), fun a ha => tH_n (by omega), bad 1, fun _ => INV_s V2, WSc_t S⟩)
end OPS4
