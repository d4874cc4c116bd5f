/-! ===== the calls (8): expect, choose ===== -/
section OPS3
variable {n : Int} {h h1 : HP} {I I1 J K : Nat → Int → Int}
theorem RS_tr {I0 : Nat → Int → Int} (hI : ∀ c, 94 ≤ c → c ≤ 139 → I0 c = I c) (R : RS h I0 h1 I1 K) : RS h I h1 I1 K := ⟨R.1, R.2.1, R.2.2.1, fun c c0 c1 => (R.2.2.2 c c0 c1).trans (hI c c0 c1)⟩
-- expect
noncomputable def xpC (J : Nat → Int → Int) (s k old now : Int) : Int := ic (x1 J s k old now) (ic (x2 J s k now) 0 2) 1
noncomputable def xpK (J : Nat → Int → Int) (s k old now : Int) : Nat → Int → Int := iP (x1 J s k old now ∧ x2 J s k now) (eX J s k old now) J
theorem eX_r {s k old now : Int} : eX J s k old now 129 = up1 (J 129) (6 * s + k) 1 ∧ eX J s k old now 130 = up1 (J 130) (6 * s + k) (fnd J old + 1) ∧ eX J s k old now 131 = up1 (J 131) (6 * s + k) (fnd J now + 1) := by
  unfold eX
  exact ⟨by rw [rowU_ne (by decide), rowU_ne (by decide), rowU_eq], by rw [rowU_ne (by decide), rowU_eq], by rw [rowU_eq]⟩
theorem eX_f {s k old now : Int} {a : Nat} (h : a < 129 ∨ 131 < a) : eX J s k old now a = J a := by
  unfold eX
  rw [rowU_ne (by omega), rowU_ne (by omega), rowU_ne (by omega)]
theorem eX_n {s k old now : Int} (hk : 0 ≤ k ∧ k ≤ 5) (z : J 129 (6 * s + k) = 0) : eN (eX J s k old now) s = eN J s + 1 := by
  have P : (fun i => eX J s k old now 129 (6 * s + i) ≠ 0) k := by
    show eX J s k old now 129 (6 * s + k) ≠ 0
    rw [eX_r.1, up1_eq]
    decide
  have m := cN_m (P := fun i => eX J s k old now 129 (6 * s + i) ≠ 0) hk.1 P 6 (by omega)
  have e : cN (fun i => eX J s k old now 129 (6 * s + i) ≠ 0 ∧ i ≠ k) 6 = cN (fun i => J 129 (6 * s + i) ≠ 0) 6 := cN_c 6 (fun i _ _ => by
    rw [eX_r.1]
    by_cases c : i = k
    · subst c
      exact ⟨fun q => absurd rfl q.2, fun q => absurd z q⟩
    · rw [up1_ne (by omega)]
      exact ⟨And.left, fun q => ⟨q, c⟩⟩)
  unfold eN
  omega
theorem k115 {s k old now : Int} {v5 v6 v7 v8 : MV} (E : EV n h I J) : ∃ h1 I1, Go 115 0 [.inr (.inl (some 1)), .inl s, .inl k, .inl old, .inl now, v5, v6, v7, v8] [] (mI h I) = some (mI h1 I1, oc eA (xpC J s k old now) (eN (eX J s k old now) s)) ∧ RS h I h1 I1 (xpK J s k old now) := by
  have st := sto_o (s := s)
  have L10 := ly_10 E.1
  have V := ev_V E
  have R := iv_R V
  have hT := iv_t V
  unfold xpC xpK
  by_cases hs : s = 0 ∨ s = 1
  · by_cases hk : 0 ≤ k ∧ k ≤ 5
    · by_cases ho : old = -1 ∨ 0 ≤ fnd J old
      · by_cases hn : now = -1 ∨ 0 ≤ fnd J now
        · have X1 : x1 J s k old now := ⟨hs, hk, ho, hn⟩
          have Cs := ev_s E hs
          have L8 := ly_8 E.1 st
          have q129 := Cs.2.1.2.1 k hk.1 (by omega)
          have kb : 0 ≤ fnd J now → 0 ≤ J 95 (fnd J now) ∧ J 95 (fnd J now) ≤ 3 ∧ kdO J (fnd J now) = J 95 (fnd J now) := fun q => by
            have fr := fr_t V q
            have w := (R.1.2 _ fr.1 fr.2).1
            exact ⟨w.1, w.2.1, kdO_t fr⟩
          have fm := fnd_n V
          have s30 : Go 115 19 [.inr (.inl (some 1)), .inl s, .inl k, .inl old, .inl now, .inr (.inl (some ((sto s)))), .inl (fnd J old), .inl (fnd J now), v8] [.inl (kdO J (fnd J now))] (mI h I) = @ite _ (now = -1 ∨ 2 ≤ J 95 (fnd J now)) (Classical.propDecidable _) (Go 115 30 [.inr (.inl (some 1)), .inl s, .inl k, .inl old, .inl now, .inr (.inl (some ((sto s)))), .inl (fnd J old), .inl (fnd J now), .inl (kdO J (fnd J now))] [] (mI h I)) (Go 115 29 [.inr (.inl (some 1)), .inl s, .inl k, .inl old, .inl now, .inr (.inl (some ((sto s)))), .inl (fnd J old), .inl (fnd J now), .inl (kdO J (fnd J now))] [] (mI h I)) := by
            rw [b115_19]
            by_cases c : now = -1
            · rw [if_pos (by rw [c]; exact fm), if_pos (Or.inl c)]
            · have q := hn.resolve_left c
              obtain ⟨k0, k1, k2⟩ := kb q
              rw [if_neg (by omega), b115_23, k2]
              by_cases d : J 95 (fnd J now) = 2
              · rw [if_pos d, if_pos (Or.inr (by omega))]
              · rw [if_neg d, b115_26]
                by_cases e : J 95 (fnd J now) = 3
                · rw [if_pos e, if_pos (Or.inr (by omega))]
                · rw [if_neg e, if_neg (fun t => t.elim c (by omega))]
          rw [b115_0 L10, k142 E.1 hs, caln_r, b115_3 L10, k146 hk, caln_v, b115_7 L10, k145 E ho, caln_r, b115_10 L10, k145 E hn, caln_r, b115_14 L10 (ly_0 E.1), k3 (ly_0 E.1) (ev_B E) R, caln_r, s30, ic_t X1]
          by_cases c : now = -1 ∨ 2 ≤ J 95 (fnd J now)
          · rw [if_pos c, b115_30 L8 (by omega), q129.1]
            by_cases z : J 129 (6 * s + k) = 0
            · have X2 : x2 J s k now := ⟨c, z⟩
              obtain ⟨A, hA⟩ : ∃ A, A = zu2 (zu2 (zu2 (zu2 I (sto s + 26) k 1) (sto s + 27) k (fnd J old)) (sto s + 28) k (fnd J now)) (sto s) 7 (eN J s + 1) := ⟨_, rfl⟩
              have i7 : zu2 (zu2 (zu2 I (sto s + 26) k 1) (sto s + 27) k (fnd J old)) (sto s + 28) k (fnd J now) (sto s) 7 = eN J s := by
                rw [zu2_row, rowU_ne (by omega), zu2_row, rowU_ne (by omega), zu2_row, rowU_ne (by omega)]
                exact Cs.2.1.2.2.1
              have A0 : A (sto s) 7 = eN J s + 1 := by rw [hA, zu2_row, rowU_eq, up1_eq]
              have A26 : A (sto s + 26) = up1 (I (sto s + 26)) k 1 := by rw [hA, zu2_row, rowU_ne (by omega), zu2_row, rowU_ne (by omega), zu2_row, rowU_ne (by omega), zu2_row, rowU_eq]
              have A27 : A (sto s + 27) = up1 (I (sto s + 27)) k (fnd J old) := by rw [hA, zu2_row, rowU_ne (by omega), zu2_row, rowU_ne (by omega), zu2_row, rowU_eq, zu2_row, rowU_ne (by omega)]
              have A28 : A (sto s + 28) = up1 (I (sto s + 28)) k (fnd J now) := by rw [hA, zu2_row, rowU_ne (by omega), zu2_row, rowU_eq, zu2_row, rowU_ne (by omega), zu2_row, rowU_ne (by omega)]
              have Af : ∀ a, a ≠ sto s → a ≠ sto s + 26 → a ≠ sto s + 27 → a ≠ sto s + 28 → A a = I a := fun a h1 h2 h3 h4 => by rw [hA, zu2_row, rowU_ne h1, zu2_row, rowU_ne h4, zu2_row, rowU_ne h3, zu2_row, rowU_ne h2]
              have en := eX_n (J := J) (s := s) (old := old) (now := now) hk z
              have eb := iv_eN (J := J) (s := s)
              obtain ⟨x129, x130, x131⟩ := eX_r (J := J) (s := s) (k := k) (old := old) (now := now)
              refine ⟨h, A, ?_, ?_⟩
              · rw [if_pos z, b115_36 L8 (by omega) (by rw [i7]; omega), i7, ← hA, A0, ic_t X2, oc_0, en]
              · rw [iP_t ⟨X1, X2⟩]
                refine RS_op E hs (fun a ha => eX_f (by omega)) (fun b b0 b1 j j0 j1 => ?_) ⟨DC_J (iv_T V) hs (fun a ha => eX_f (by omega)) (DC_I E.2.1 (by omega) (fun a ha => Af a (by omega) (by omega) (by omega) (by omega)) Cs.1), ⟨fun y y0 y1 => ?_, fun r r0 r1 => ?_, by rw [A0, en], fun e e0 e1 => ?_⟩, ?_⟩ (fun a ha => Af a (by omega) (by omega) (by omega) (by omega))
                · by_cases b9 : b = 129 ∨ b = 130 ∨ b = 131
                  · obtain rfl | rfl | rfl := b9
                    · rw [show wd 129 = 6 from rfl] at j0 j1; rw [x129]; exact up1_ne (by omega)
                    · rw [show wd 130 = 6 from rfl] at j0 j1; rw [x130]; exact up1_ne (by omega)
                    · rw [show wd 131 = 6 from rfl] at j0 j1; rw [x131]; exact up1_ne (by omega)
                  · rw [eX_f (by omega)]
                · rw [Af _ (by omega) (by omega) (by omega) (by omega), Af _ (by omega) (by omega) (by omega) (by omega), eX_f (by omega), eX_f (by omega)]
                  exact Cs.2.1.1 y y0 y1
                · rw [A26, A27, A28, x129, x130, x131]
                  by_cases d : r = k
                  · subst d
                    rw [up1_eq, up1_eq, up1_eq, up1_eq, up1_eq, up1_eq]
                    exact ⟨rfl, fun _ => by omega⟩
                  · rw [up1_ne d, up1_ne d, up1_ne d, up1_ne (by omega), up1_ne (by omega), up1_ne (by omega)]
                    exact Cs.2.1.2.1 r r0 r1
                · rw [eX_f (by omega)] at e1
                  rw [Af _ (by omega) (by omega) (by omega) (by omega), Af _ (by omega) (by omega) (by omega) (by omega), Af _ (by omega) (by omega) (by omega) (by omega), eX_f (by omega), eX_f (by omega), eX_f (by omega)]
                  exact Cs.2.1.2.2.2 e e0 e1
                · rw [CC_I (I := I) (fun a a0 a1 => Af a (by omega) (by omega) (by omega) (by omega))]
                  exact CC_f (fun a ha => eX_f (by omega)) Cs.2.2
            · have X2 : ¬x2 J s k now := fun q => z q.2
              rw [iP_f (fun q => X2 q.2)]
              exact ⟨hThr h, I, by rw [if_neg z, b115_35, ic_f X2]; rfl, RS_x E⟩
          · have X2 : ¬x2 J s k now := fun q => c q.1
            rw [iP_f (fun q => X2 q.2)]
            exact ⟨hThr h, I, by rw [if_neg c, b115_29, ic_f X2]; rfl, RS_x E⟩
        · have X1 : ¬x1 J s k old now := fun q => hn q.2.2.2
          rw [iP_f (fun q => X1 q.1), ic_f X1]
          exact ⟨hThr h, I, by rw [b115_0 L10, k142 E.1 hs, caln_r, b115_3 L10, k146 hk, caln_v, b115_7 L10, k145 E ho, caln_r, b115_10 L10, k145x E hn, caln_x]; rfl, RS_x E⟩
      · have X1 : ¬x1 J s k old now := fun q => ho q.2.2.1
        rw [iP_f (fun q => X1 q.1), ic_f X1]
        exact ⟨hThr h, I, by rw [b115_0 L10, k142 E.1 hs, caln_r, b115_3 L10, k146 hk, caln_v, b115_7 L10, k145x E ho, caln_x]; rfl, RS_x E⟩
    · have X1 : ¬x1 J s k old now := fun q => hk q.2.1
      rw [iP_f (fun q => X1 q.1), ic_f X1]
      exact ⟨hThr h, I, by rw [b115_0 L10, k142 E.1 hs, caln_r, b115_3 L10, k146x hk, caln_x]; rfl, RS_x E⟩
  · have X1 : ¬x1 J s k old now := fun q => hs q.1
    rw [iP_f (fun q => X1 q.1), ic_f X1]
    exact ⟨hThr h, I, by rw [b115_0 L10, k142x hs, caln_x]; rfl, RS_x E⟩
theorem NSs_f {s : Int} (f : ∀ a, (94 ≤ a ∧ a ≤ 98) ∨ a = 104 ∨ a = 105 ∨ (115 ≤ a ∧ a ≤ 122) → K a = J a) (hT : J 94 0 ≤ 120) (N : NSs J s) : NSs K s := by
  obtain ⟨n1, n2, n3⟩ := N
  refine ⟨?_, ?_, fun t ht => ?_⟩
  · unfold NL
    rw [f 104 (by decide), f 105 (by decide), f 119 (by decide), f 122 (by decide)]
    exact n1
  · unfold NtC
    rw [f 115 (by decide), f 116 (by decide), f 118 (by decide)]
    exact NtOK_c (J := J) (fun c hc => f c (by omega)) hT (fun _ _ _ => rfl) (fun _ _ _ => rfl) (fun _ _ _ q => q) n2
  · unfold SlU at ht
    rw [f 104 (by decide), f 105 (by decide)] at ht
    unfold SlN
    rw [f 120 (by decide), f 121 (by decide)]
    exact NtOK_c (J := J) (fun c hc => f c (by omega)) hT (fun _ _ _ => rfl) (fun _ _ _ => rfl) (fun _ _ _ q => q) (n3 t ht)
theorem IVX_eX {s k old now : Int} (V : INV n J) (X1 : x1 J s k old now) (X2 : x2 J s k now) : IVX (n + 1) (eX J s k old now) := by
  obtain ⟨hs, hk, ho, hn⟩ := X1
  have hT := iv_t V
  have VX := IVX_of V
  obtain ⟨x129, x130, x131⟩ := eX_r (J := J) (s := s) (k := k) (old := old) (now := now)
  have en := eX_n (J := J) (s := s) (old := old) (now := now) hk X2.2
  have fl := fnd_lt (I := J) (x := now) hT.1
  have EJ := iv_E V
  have l := iv_l V hs
  refine IVX_mk (s := s) VX hs (fun a ha => eX_f (by omega)) (fun u hu hn b b0 b1 j j0 j1 => ?_) (c_WT (fun a ha => eX_f (by omega)) (iv_T V)) (by rw [eX_f (by omega)]; exact iv_110 V) (by rw [eX_f (by omega)]; exact iv_116 V) (by rw [eX_f (by omega)]; exact iv_117 V) (by rw [eX_f (by omega)]; exact iv_127 V) ⟨⟨fun j => ?_, fun j j0 j1 => ?_⟩, fun j j0 j1 q => ?_⟩ (c_WG (fun a ha => eX_f (by omega)) (iv_G V)) (c_WQ (fun a ha => eX_f (by omega)) (iv_Q2 V)) (c_WO (fun a ha => eX_f (by omega)) (iv_O2 V)) (c_PM (fun a ha => eX_f (by omega)) (iv_M V)) (c_PD (fun a ha => eX_f (by omega)) (iv_P V)) (c_ZO (fun a ha => eX_f (by omega)) (iv_Z V)) (c_Z7 (fun a ha => eX_f (by omega)) (iv_Z7 V)) (by rw [eX_f (by omega)]; exact iv_126 V) (NSs_f (fun a ha => eX_f (by omega)) (by omega) (ix_N VX hs)) (by rw [eX_f (by omega), en]; omega) (by omega)
  · by_cases b9 : b = 129 ∨ b = 130 ∨ b = 131
    · obtain rfl | rfl | rfl := b9
      · rw [show wd 129 = 6 from rfl] at j0 j1; rw [x129]; exact up1_ne (by omega)
      · rw [show wd 130 = 6 from rfl] at j0 j1; rw [x130]; exact up1_ne (by omega)
      · rw [show wd 131 = 6 from rfl] at j0 j1; rw [x131]; exact up1_ne (by omega)
    · rw [eX_f (by omega)]
  · rw [x129]
    by_cases c : j = 6 * s + k
    · rw [c, up1_eq]; exact Or.inr rfl
    · rw [up1_ne c]; exact EJ.1 j
  · rw [x131, eX_f (by omega)]
    by_cases c : j = 6 * s + k
    · rw [c, up1_eq]; omega
    · rw [up1_ne c]; exact EJ.2 j j0 j1
  · rw [x131] at q
    rw [x131, eX_f (by omega)]
    by_cases c : j = 6 * s + k
    · rw [c, up1_eq] at q
      rw [c, up1_eq, show fnd J now + 1 - 1 = fnd J now by omega]
      obtain r | r := X2.1
      · rw [r, fnd_n V] at q
        exact absurd rfl q
      · exact r
    · rw [up1_ne c] at q
      rw [up1_ne c]
      exact (iv_E2 V).2 j j0 j1 q
theorem aw_x1 {s k old now : Int} (g : AW I J) : x1 J s k old now = x1 I s k old now := by
  unfold x1
  rw [aw_fnd g]
theorem aw_x2 {s k now : Int} (g : AW I J) : x2 J s k now = x2 I s k now := by
  unfold x2
  rw [aw_fnd g, g.1 95 (by decide) (by decide), g.1 129 (by decide) (by decide)]
theorem s115 {s k old now : Int} (E : EV n h I I) (S : WSc I) : STEP 115 [.inr (.inl (some 1)), .inl s, .inl k, .inl old, .inl now, vU, vU, vU, vU] 217 [.inr (.inl (some 94)), .inl s, .inl k, .inl old, .inl now, vU, vU, vU] eA n h I :=
  STEP_mk1 (c := fun J => xpC J s k old now) (v := fun J => eN (eX J s k old now) s) (K := fun J => xpK J s k old now) E S eA_i (fun J => ic_3 (by decide) (by decide) (by decide)) (fun J _ E => k115 E)
    (fun h2 I2 _ L V S => by
      have g := AW_t (x := 0) (AW_r I2)
      have V2 : INV n (tH I2 0) := by rw [aw_INV g]; exact V
      rw [r217 L (WB_t (iv_R V).1)]
      refine ⟨tH I2 0, ?_⟩
      unfold xpC xpK
      rw [aw_x1 g, aw_x2 g]
      by_cases c : x1 I2 s k old now
      · rw [if_pos c, ic_t c]
        by_cases d : x2 I2 s k now
        · rw [aq_t d, ic_t d, iP_t ⟨c, d⟩]
          exact ⟨_, _, g, rfl, by rw [eX_f (by omega), tH_49], fun _ => rfl, fun a ha => by rw [eX_f (by omega), tH_n (by omega)], AW_r _, fun _ => INV_of (IVX_eX V2 (by rw [aw_x1 g]; exact c) (by rw [aw_x2 g]; exact d)) (RD_c (fun a ha => eX_f (by omega)) (iv_RD V2 (Or.inl rfl))) (RD_c (fun a ha => eX_f (by omega)) (iv_RD V2 (Or.inr rfl))), WSc_k (fun a a0 a1 => by rw [eX_f (by omega), tH_n (by omega)]) S⟩
        · rw [aq_f d, ic_f d, iP_f (fun q => d q.2)]
          exact ⟨_, _, g, rfl, tH_49, (fun q => absurd q (by decide)), fun a ha => tH_n (by omega), aw_tJ I2 2, fun _ => INV_s V2, WSc_t S⟩
      · rw [if_neg c, ic_f c, iP_f (fun q => c q.1)]
        exact ⟨_, _, g, rfl, tH_49, (fun q => absurd q (by decide)), fun a ha => tH_n (by omega), aw_tJ I2 1, fun _ => INV_s V2, WSc_t S⟩)
-- choose
noncomputable def csC (J : Nat → Int → Int) (s x : Int) : Int := ic (qI J s x) (ic (J 95 (fnd J x) = 2) (ic (chO J s (fnd J x)) 0 3) 2) 1
noncomputable def csK (J : Nat → Int → Int) (s x : Int) : Nat → Int → Int := iP (qI J s x ∧ J 95 (fnd J x) = 2 ∧ chO J s (fnd J x)) (chJ J s (fnd J x)) J
theorem chJ_f {s o : Int} {a : Nat} (h : a ≠ 128) : chJ J s o a = J a := rowU_ne h
theorem SU_ch {s u o : Int} (hs : s = 0 ∨ s = 1) (hu : u = 0 ∨ u = 1) (hn : u ≠ s) (ho : 0 ≤ o ∧ o < 120) : SU J (chJ J s o) u := by
  unfold chJ
  rw [← zu2_row]
  exact SU_z 120 rfl (s := s) (by omega) (fun j j0 j1 => by omega)
theorem k124 {s x : Int} {v3 v4 : MV} (E : EV n h I J) : ∃ h1 I1, Go 124 0 [.inr (.inl (some 1)), .inl s, .inl x, v3, v4] [] (mI h I) = some (mI h1 I1, oc eA (csC J s x) (chN (chJ J s (fnd J x)) s)) ∧ RS h I h1 I1 (csK J s x) := by
  have st := sto_o (s := s)
  have L10 := ly_10 E.1
  have V := ev_V E
  have R := iv_R V
  have hT := iv_t V
  unfold csC csK
  by_cases hs : s = 0 ∨ s = 1
  · by_cases c : 0 ≤ fnd J x
    · have fr := fr_t V c
      have q : qI J s x := ⟨hs, c⟩
      have Cs := ev_s E hs
      have L1 := ly_1 E.1 st
      obtain ⟨o, ho⟩ : ∃ o, o = fnd J x := ⟨_, rfl⟩
      rw [← ho] at fr ⊢
      obtain ⟨c1, c2, c3, c4⟩ := Cs.2.2
      rw [b124_0 L10, k142 E.1 hs, caln_r, b124_3 L10, k144 E c, caln_r, ← ho, b124_7 L10 (ly_0 E.1), k3 (ly_0 E.1) (ev_B E) R, caln_r, kdO_t fr, b124_12, ic_t q]
      by_cases k2 : J 95 o = 2
      · rw [if_pos k2, ic_t k2, b124_15 (ly_8 E.1 st) L1]
        by_cases m4 : 4 ≤ I (sto s + 21) 2
        · have nq : ¬chO J s o := fun t => t.2.2 (by have := c1.1; have := c1.2; omega)
          rw [iP_f (fun t => nq t.2.2), ic_f nq]
          exact ⟨hThr h, I, by rw [if_pos m4, b124_31]; rfl, RS_x E⟩
        · obtain ⟨i, e20, hi⟩ := k20 (h := h) (I := I) (c := sto s + 21) (x := o) (v2 := vU) L1 c1.2
          rw [if_neg m4, b124_20 (ly_8 E.1 st) L1, e20, caln_r, b124_24]
          by_cases d : i = -1
          · have no : ∀ j, 0 ≤ j → j < I (sto s + 21) 2 → I (sto s + 22) j ≠ o := by
              obtain r | r := hi
              · exact r.2
              · omega
            have z : J 128 (120 * s + o) = 0 := Classical.byContradiction fun t => by
              obtain ⟨k, hk, e⟩ := c3 o fr.1 (by omega) t
              exact no k hk.1 hk.2 e
            rw [if_neg (fun t => t d), b124_26 L10, k154 E hs fr, caln_r, b124_30]
            obtain ⟨C, hC⟩ : ∃ C, C = Cl (Eg J s) (fun j => j = o) := ⟨_, rfl⟩
            have Cr : SL J C := fun j q => by rw [hC] at q; exact Cl_lt R.1 (fun j q => by omega) j q
            have E1 := EV_75 E (SL_1 E Cr)
            by_cases w : Wh J s o
            · have yq : chO J s o := ⟨w, z, by have := c1.1; omega⟩
              obtain ⟨I0, hI0⟩ : ∃ I0, I0 = rowU I 75 (ind C) := ⟨_, rfl⟩
              rw [← hI0] at E1
              obtain ⟨P, hP, e1, e71, e72⟩ := e_mk (s := s) (x := o) E1 hs fr
              have e75 : Go 75 0 [.inr (.inl (some 74)), .inr (.inl (some ((sto s + 7)))), vU] [] (mI h (rowU I0 75 (ind (fun j => j = o)))) = some (mI h (rowU I0 75 (ind C)), .inl none) := by
                rw [hC]
                exact k75 (a := 74) (P := fun j => j = o) (s := s) (ly_0 E.1) (ly_74 E.1) (ly_4 E.1 st) (ev_B E1) R (iv_Sh V) (ShC_N (ev_N E1 hs) hT.2) (by decide) (by omega) hs (fun j q => by omega)
              have e00 : rowU I0 75 (ind C) = I0 := by rw [hI0, rowU_tw]
              have La : hK h 75 = (1, 100) := LX_k (ly_74 E.1) 1 false 1 1 100 rfl
              have Cs0 := ev_s E1 hs
              have i2 : I0 (sto s + 21) 2 = I (sto s + 21) 2 := by rw [hI0, rowU_ne (by omega)]
              obtain ⟨I1, e21, f1, CC1, n1⟩ := k21 (h := h) (I := I0) (J := J) (c := sto s + 21) (a := 75) (s := s) (x := o) (v3 := vU) L1 La (by omega) Cs0.2.2 R.1 (by omega) fr z (by rw [hI0, rowU_eq, hC]) hs
              rw [iP_t ⟨q, k2, yq⟩, ic_t yq]
              refine ⟨h, I1, ?_, RS_tr (I0 := I0) (fun a a0 a1 => by rw [hI0, rowU_ne (by omega)]) (RS_op E1 hs (fun a ha => chJ_f (by omega)) (SU_ch hs (by omega) (by omega) (by omega)) ⟨DC_J (iv_T V) hs (fun a ha => chJ_f (by omega)) (DC_I E.2.1 (by omega) (fun a ha => f1 a (by omega)) Cs0.1), ?_, CC1⟩ (fun a ha => f1 a (by omega)))⟩
              · rw [b01_t w, if_pos neg1_ne, b124_32 L10 (ly_74 E.1), ← hC, ← hI0, e1, e71, caln_v, b124_35 L10 (ly_74 E.1), e72, caln_v, b124_39 L10 (ly_8 E.1 st) (ly_3 E.1 st) (ly_74 E.1), e75, caln_v, e00, b124_45 (ly_8 E.1 st) L10 (ly_74 E.1) L1, e21, caln_v, b124_52 (ly_8 E.1 st) L1, CC1.1.1, oc_0]
              · rw [SC_I (I := I0) (fun a ha => f1 a (by omega))]
                have sc := Cs0.2.1
                unfold SC eN at sc ⊢
                rw [chJ_f (a := 119) (by decide), chJ_f (a := 123) (by decide), chJ_f (a := 124) (by decide), chJ_f (a := 125) (by decide), chJ_f (a := 126) (by decide), chJ_f (a := 127) (by decide), chJ_f (a := 129) (by decide), chJ_f (a := 130) (by decide), chJ_f (a := 131) (by decide)]
                exact sc
            · have nq : ¬chO J s o := fun t => w t.1
              rw [iP_f (fun t => nq t.2.2), ic_f nq]
              refine ⟨hThr h, rowU I 75 (ind C), by rw [b01_f w, if_neg (fun t => t rfl), b124_31, hC]; rfl, RS_75x E (SL_1 E Cr)⟩
          · have nq : ¬chO J s o := fun t => by
              obtain r | ⟨r, e⟩ := hi
              · exact d r.1
              · have := (c2 i r.1 r.2).2
                rw [e] at this
                exact this t.2.1
            rw [iP_f (fun t => nq t.2.2), ic_f nq]
            exact ⟨hThr h, I, by rw [if_pos d, b124_31]; rfl, RS_x E⟩
      · rw [iP_f (fun t => k2 t.2.1), ic_f k2]
        exact ⟨hThr h, I, by rw [if_neg k2, b124_14]; rfl, RS_x E⟩
    · have nq : ¬qI J s x := fun t => c t.2
      rw [iP_f (fun t => nq t.1), ic_f nq]
      exact ⟨hThr h, I, by rw [b124_0 L10, k142 E.1 hs, caln_r, b124_3 L10, k144x E c, caln_x]; rfl, RS_x E⟩
  · have nq : ¬qI J s x := fun t => hs t.1
    rw [iP_f (fun t => nq t.1), ic_f nq]
    exact ⟨hThr h, I, by rw [b124_0 L10, k142x hs, caln_x]; rfl, RS_x E⟩
theorem aw_chO {s o : Int} (g : AW I J) : chO J s o = chO I s o := by
  unfold chO
  rw [aw_Wh g, aw_chN g, g.1 128 (by decide) (by decide)]
theorem s124 {s x : Int} (E : EV n h I I) (S : WSc I) : STEP 124 [.inr (.inl (some 1)), .inl s, .inl x, vU, vU] 235 [.inr (.inl (some 94)), .inl s, .inl x, vU] eA n h I :=
  STEP_mk1 (c := fun J => csC J s x) (v := fun J => chN (chJ J s (fnd J x)) s) (K := fun J => csK J s x) E S eA_i (fun J => by unfold csC; have := ic_r (p := qI J s x) (ic_r (p := J 95 (fnd J x) = 2) (ic_r (p := chO J s (fnd J x)) (x := 0) (y := 3) (by decide) (by decide)) (y := 2) (by decide)) (y := 1) (by decide); omega) (fun J _ E => k124 E)
    (fun h2 I2 _ L V S => by
      obtain ⟨P, hP, e⟩ := r235 (h := h2) (I := I2) (s := s) (x := x) (v3 := vU) L (iv_T V) (WSc_133e S)
      obtain ⟨J, hJ⟩ : ∃ J, J = rowU (tH I2 0) 133 (ind P) := ⟨_, rfl⟩
      have g : AW I2 J := by rw [hJ]; exact AW_U (AW_t (AW_r I2)) (Or.inl (by decide))
      have V2 : INV n J := by rw [aw_INV g]; exact V
      have f : ∀ a, a ≠ 94 → a ≠ 133 → J a = I2 a := fun a h1 h2 => by rw [hJ, rowU_ne h2, tH_n h1]
      have j94 : J 94 = tH I2 0 94 := by rw [hJ, rowU_ne (by decide)]
      rw [e]
      refine ⟨J, ?_⟩
      unfold csC csK
      rw [aw_qI g, aw_fnd g, aw_chO g, f 95 (by decide) (by decide)]
      have bad : ∀ t : Int, AW J (tH I2 t) := fun t => AW_tr (AW_s g) (AW_t (AW_r I2))
      by_cases c : qI I2 s x
      · rw [if_pos c, ic_t c]
        by_cases d : I2 95 (fnd I2 x) = 2
        · rw [if_pos d, ic_t d]
          by_cases w : chO I2 s (fnd I2 x)
          · have fr := fr_t V c.2
            have ev : chN (chJ I2 s (fnd I2 x)) s = chN (chJ J s (fnd I2 x)) s := by
              unfold chN chJ
              rw [rowU_eq, rowU_eq, f 128 (by decide) (by decide)]
            rw [aq_t w, ic_t w, iP_t ⟨c, d, w⟩, ← hJ]
            refine ⟨_, _, g, rfl, by rw [chJ_f (by decide), j94, tH_49], fun _ => ev, fun a ha => by rw [chJ_f (by omega), f a (by omega) (by omega)], AW_r _, fun _ => INV_x ?_ rfl (RD2_c V2 (fun a ha => chJ_f (by omega))), WSc_k (fun a a0 a1 => chJ_f (by omega)) ?_⟩
            · have eq : chJ J s (fnd I2 x) = zu2 J 128 (120 * s + fnd I2 x) 1 := by rw [zu2_row]; rfl
              have := iv_t V
              rw [eq]
              exact IVX_zz (IVX_of V2) c.1 (by decide) (c_WT (fun a ha => by rw [zu2_row, rowU_ne (by omega)]) (iv_T V2)) (fun u hu hn => SU_z 120 rfl (s := s) (by have := fr.2; omega) (fun j j0 j1 => by have := fr.2; have := c.1; omega)) (by rw [zu2_row, rowU_ne (by decide)]; exact iv_127 V2) (c_Z7 (fun a ha => by rw [zu2_row, rowU_ne (by omega)]) (iv_Z7 V2))
            · rw [hJ]
              exact WSc_133 (WSc_t S) hP
          · rw [aq_f w, ic_f w, iP_f (fun q => w q.2.2)]
            refine ⟨_, _, g, rfl, tH_49, (fun q => absurd q (by decide)), fun a ha => by rw [tH_n (by omega), rowU_ne (by omega)], ?_, fun _ => INV_s V2, WSc_t (WSc_133 S hP)⟩
            exact AW_tr (AW_s g) (AW_t (AW_U (AW_r I2) (Or.inl (by decide))))
        · rw [if_neg d, ic_f d, iP_f (fun q => d q.2.1)]
          exact ⟨_, _, g, rfl, tH_49, (fun q => absurd q (by decide)), fun a ha => tH_n (by omega), bad 2, fun _ => INV_s V2, WSc_t S⟩
      · rw [if_neg c, ic_f c, iP_f (fun q => c q.1)]
        exact ⟨_, _, g, rfl, tH_49, (fun q => absurd q (by decide)), fun a ha => tH_n (by omega), bad 1, fun _ => INV_s V2, WSc_t S⟩)
end OPS3
