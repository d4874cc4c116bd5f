/-! ===== the calls (13): commit ===== -/
section OPS8
variable {n m : Int} {h h1 : HP} {I I1 J K M D : Nat → Int → Int}
theorem LYB_X {c w : Nat} (X : XT h h1 c w) (Y : LYB h) : LYB h1 := by
  have n := Y.1.1
  refine ⟨STA_X X Y.1, ⟨LXs X n (by decide) Y.2.1.1, LXs X n (by decide) Y.2.1.2⟩, ?_⟩
  rw [(X.2.1 139 (by omega)).1]
  exact Y.2.2
theorem IVX_lo (V : IVX m K) (h8 : K 94 8 ≤ 100 * n) (hl : ∀ s, s = 0 ∨ s = 1 → K 119 s + eN K s ≤ n) : IVX n K := by
  obtain ⟨a, b, c, d, e, f, g, i, j, k, l⟩ := V
  exact ⟨a, b, c, d, e, f, g, i, j, ⟨k.1, h8⟩, hl⟩
theorem cA_n {s : Int} : cA J s (6 * s + 6) ↔ eN J s ≠ 0 := by
  constructor
  · rintro ⟨k, k0, k1, q⟩
    have P : (fun i => J 129 (6 * s + i) ≠ 0) (k - 6 * s) := by
      show J 129 (6 * s + (k - 6 * s)) ≠ 0
      rw [show 6 * s + (k - 6 * s) = k by omega]
      exact q
    have := cN_1 (P := fun i => J 129 (6 * s + i) ≠ 0) (b := k - 6 * s) (by omega) P (n := 6) (by omega)
    unfold eN
    omega
  · intro q
    refine Classical.byContradiction fun r => q (eN_0 (fun i i0 i1 => Classical.byContradiction fun z => r ⟨6 * s + i, by omega, by omega, z⟩))
theorem k155 {s : Int} {v2 : MV} (E : EV n h I J) (hs : s = 0 ∨ s = 1) :
    ∃ P, S1 P ∧ Go 155 0 [.inr (.inl (some 1)), .inr (.inl (some ((sto s)))), v2] [] (mI h I) = some (mI h (rowU I 75 (ind P)), .inl (some (.inl (b01 (cW J s (6 * s + 6)))))) := by
  have st := sto_o (s := s)
  have L8 := ly_8 E.1 st
  have V := ev_V E
  obtain ⟨P0, hP0, e75⟩ := ev_75 E
  have e0 : mI h I = mI h (rowU I 75 (ind P0)) := by rw [← e75, rowU_id]
  rw [b155_0, e0]
  refine lpQ (fun k (P : Int → Prop) => Go 155 2 [.inr (.inl (some 1)), .inr (.inl (some ((sto s)))), .inl k] [] (mI h (rowU I 75 (ind P)))) (fun k P => S1 P ∧ cW J s (6 * s + k)) (fun r => ∃ P, S1 P ∧ r = some (mI h (rowU I 75 (ind P)), .inl (some (.inl (b01 (cW J s (6 * s + 6))))))) 0 6 (by decide) ?_ ?_ P0 ⟨hP0, fun i i0 i1 => by omega⟩
  · rintro k P k0 k1 ⟨hP, hq⟩
    have EP := EV_75 E hP
    obtain ⟨q1, q2⟩ := (ev_s EP hs).2.1.2.1 k k0 k1
    have go : (J 129 (6 * s + k) ≠ 0 → J 131 (6 * s + k) ≠ 0 → Wh J s (J 131 (6 * s + k) - 1)) → cW J s (6 * s + (k + 1)) := fun g i i0 i1 a b => by
      by_cases c : i = 6 * s + k
      · subst c; exact g a b
      · exact hq i i0 (by omega) a b
    rw [b155_2, if_neg (by omega), b155_5 L8 (by omega), q1]
    by_cases z : J 129 (6 * s + k) = 0
    · right
      exact ⟨P, by rw [if_pos z, b155_26 (by omega)], hP, go (fun t => absurd z t)⟩
    · have q3 := (q2 z).2
      have w := (iv_E V).2 (6 * s + k) (by omega) (by omega)
      rw [if_neg z, b155_10 L8 (by omega), q3]
      by_cases y : J 131 (6 * s + k) = 0
      · right
        exact ⟨P, by rw [if_pos (by omega), b155_26 (by omega)], hP, go (fun _ t => absurd y t)⟩
      · have hx : 0 ≤ J 131 (6 * s + k) - 1 ∧ J 131 (6 * s + k) - 1 < J 94 0 := by omega
        have Cr : S1 (Cl (Eg J s) (fun j => j = J 131 (6 * s + k) - 1)) := SL_1 E (fun j q => Cl_lt (iv_R V).1 (fun j q => by rw [q]; exact hx) j q)
        rw [if_neg (by omega), b155_16 L8 (by omega) (ly_10 E.1), q3, k154 EP hs hx, caln_r, b155_23, rowU_tw]
        by_cases g : Wh J s (J 131 (6 * s + k) - 1)
        · right
          exact ⟨_, by rw [b01_t g, if_pos neg1_ne, b155_26 (by omega)], Cr, go (fun _ _ => g)⟩
        · left
          exact ⟨_, Cr, by rw [b01_f g, if_neg (fun t => t rfl), b155_24, b01_f (p := cW J s (6 * s + 6)) (fun t => g (t (6 * s + k) (by omega) (by omega) z y))]⟩
  · rintro P ⟨hP, hq⟩
    exact ⟨P, hP, by rw [b155_2, if_pos (by decide), b155_28, b01_t hq]⟩
noncomputable def cmC (J : Nat → Int → Int) (s : Int) : Int := ic (s = 0 ∨ s = 1) (ic (cA J s (6 * s + 6) ∧ (cM J s (6 * s + 6) → cW J s (6 * s + 6))) 0 2) 1
noncomputable def cmY (J : Nat → Int → Int) (s : Int) : Nat → Int → Int := cX (kN (bF (dO J s 4 0) s 6) s (dO J s 4 0 104 s)) s
noncomputable def cmK (J : Nat → Int → Int) (s : Int) : Nat → Int → Int := iP ((s = 0 ∨ s = 1) ∧ cA J s (6 * s + 6) ∧ (cM J s (6 * s + 6) → cW J s (6 * s + 6))) (iP (cM J s (6 * s + 6)) (cmY J s) (cX J s)) J
theorem cX_f {s : Int} {a : Nat} (ha : a ≠ 129) : cX J s a = J a := rowU_ne ha
theorem cm_M {s : Int} (V : INV n J) (hs : s = 0 ∨ s = 1) (hn : n ≤ 512) : ∃ D M, D = dO J s 4 0 ∧ M = bF D s 6 ∧ BP D s M ∧ J 119 s ≤ M 119 s ∧ M 119 s ≤ J 119 s + eN J s ∧ M 104 s = D 104 s ∧ IVX (n + 6) (kN M s (M 104 s)) := by
  obtain ⟨D, hD⟩ : ∃ D, D = dO J s 4 0 := ⟨_, rfl⟩
  obtain ⟨M, hM⟩ : ∃ M, M = bF D s 6 := ⟨_, rfl⟩
  have hT := iv_t V
  have fD : ∀ a, a < 101 ∨ (107 < a ∧ a < 110) ∨ (110 < a ∧ a < 120) ∨ 122 < a → D a = J a := fun a ha => by rw [hD]; exact dO_f ha
  have en : eN D s = eN J s := by unfold eN; rw [fD 129 (by decide)]
  have l := iv_l V hs
  have e6 := iv_eN (J := J) (s := s)
  have h9 := (iv_G V).2.2.2.2 s hs
  have P0 : BP D s D := ⟨fun _ _ _ _ _ _ => rfl, fun u _ _ => SU_rf, by
    unfold NtC
    exact NtOK_c (J := J) (fun a ha => fD a (by omega)) (by omega) (fun k _ _ => by rw [fD 115 (by decide)]) (fun o _ _ => by rw [fD 118 (by decide)]) (fun o _ _ q => by rw [fD 116 (by decide)] at q; exact q) (iv_nt V hs), c_WG (fun a ha => fD a (by omega)) (iv_G V)⟩
  obtain ⟨P, b1, b2⟩ := BP_bF hs (D := D) (fun r r0 r1 => by
    rw [fD 131 (by decide), fD 94 (by decide), fD 95 (by decide)]
    exact ⟨(iv_E V).2 (6 * s + r) (by omega) (by omega), (iv_E2 V).2 (6 * s + r) (by omega) (by omega)⟩) (by rw [fD 94 (by decide)]; omega) (by rw [en, fD 119 (by decide)]; omega) P0 6 (Nat.le_refl _)
  have hen : eN D s = cN (fun i => D 129 (6 * s + i) ≠ 0) 6 := rfl
  rw [← hM] at P b1 b2
  rw [← hen, en, fD 119 (by decide)] at b2
  rw [fD 119 (by decide)] at b1
  have pf := P.1
  have Mf : ∀ a, (a < 115 ∨ 119 < a) → (a < 123 ∨ 125 < a) → M a = dO J s 4 0 a := fun a h1 h2 => by rw [pf a (by omega) (by omega) (by omega) (by omega) (by omega), hD]
  refine ⟨D, M, hD, hM, P, b1, b2, by rw [pf 104 (by decide) (by decide) (by decide) (by decide) (by decide)], IVX_nt (o := 0) (IVX_of V) hs Mf (fun u hu hn => by rw [← hD]; exact P.2.1 u hu hn) ?_ ?_ ?_ P.2.2.1 P.2.2.2 b1 (by omega) (by omega)⟩
  · rw [pf 116 (by decide) (by decide) (by decide) (by decide) (by decide), fD 116 (by decide)]; exact iv_116 V
  · rw [pf 117 (by decide) (by decide) (by decide) (by decide) (by decide), fD 117 (by decide)]; exact iv_117 V
  · unfold WN
    rw [pf 118 (by decide) (by decide) (by decide) (by decide) (by decide), fD 118 (by decide)]; exact (iv_T V).2.2.1
theorem cm_I {s : Int} (V : INV n J) (hs : s = 0 ∨ s = 1) (hn : n ≤ 512) : IVX n (cmY J s) ∧ (∀ u, u = 0 ∨ u = 1 → u ≠ s → SU J (cmY J s) u) ∧ (∀ a, (a < 101 ∨ (107 < a ∧ a < 110) ∨ (110 < a ∧ a < 115) ∨ (115 < a ∧ a < 119) ∨ (125 < a ∧ a ≠ 129)) → cmY J s a = J a) ∧ WT (kN (bF (dO J s 4 0) s 6) s (dO J s 4 0 104 s)) := by
  obtain ⟨D, M, hD, hM, P, b1, b2, m4, X⟩ := cm_M V hs hn
  have eY : cmY J s = cX (kN M s (M 104 s)) s := by
    unfold cmY
    rw [← hD, ← hM, m4]
  have fD : ∀ a, a < 101 ∨ (107 < a ∧ a < 110) ∨ (110 < a ∧ a < 120) ∨ 122 < a → D a = J a := fun a ha => by rw [hD]; exact dO_f ha
  have f : ∀ a, (a < 101 ∨ (107 < a ∧ a < 110) ∨ (110 < a ∧ a < 115) ∨ (115 < a ∧ a < 119) ∨ (125 < a ∧ a ≠ 129)) → cmY J s a = J a := fun a ha => by
    rw [eY, cX_f (by omega), kN_f (by omega) (by omega) (by omega), P.1 a (by omega) (by omega) (by omega) (by omega) (by omega), fD a (by omega)]
  obtain ⟨X2, S2⟩ := IVX_cX X hs
  have T := iv_T V
  have h30 := dO_104 (s := s) (a := 4) (o := 0) (T.2.2.2.2.2.1 s hs)
  have SS : ∀ u, u = 0 ∨ u = 1 → u ≠ s → SU J (cmY J s) u := fun u hu hn => by
    rw [eY]
    refine SU_t (SU_t (SU_t (SU_dO (s := s) (a := 4) (o := 0) T hu hs hn) ?_) (SU_kN (J := M) (s := s) (t := M 104 s) (by rw [m4, hD]; exact h30) hu hs hn)) (S2 u hu hn)
    rw [← hD]
    exact P.2.1 u hu hn
  rw [← eY] at X2
  refine ⟨IVX_lo X2 (by rw [f 94 (by decide)]; exact (iv_8 V).2) (fun u hu => ?_), SS, f, by rw [← hD, ← hM, ← m4]; exact ix_T X⟩
  have l := iv_l V hu
  by_cases c : u = s
  · subst c
    have e9 : eN (cmY J u) u = 0 := eN_0 (fun r r0 r1 => by
      rw [eY]
      unfold cX
      rw [rowU_eq, fillR_in (by omega)])
    have e19 : cmY J u 119 = M 119 := by rw [eY, cX_f (by decide), kN_f (by decide) (by decide) (by decide)]
    rw [e9, e19]
    omega
  · rw [c_eN hu (SS u hu c), SU_r (SS u hu c) 119 1 rfl (by decide) u (by omega)]
    exact l
theorem k116 {s : Int} {v2 v3 : MV} (E : EV n h I J) (hn : n ≤ 512) : ∃ h1 I1, Go 116 0 [.inr (.inl (some 1)), .inl s, v2, v3] [] (mI h I) = some (mI h1 I1, oc eC (cmC J s) (b01 (cM J s (6 * s + 6)))) ∧ RS h I h1 I1 (cmK J s) ∧ RD2 (cmK J s) := by
  have st := sto_o (s := s)
  have L10 := ly_10 E.1
  have V := ev_V E
  have T := iv_T V
  unfold cmC cmK
  by_cases hs : s = 0 ∨ s = 1
  · have Cs := ev_s E hs
    have L8 := ly_8 E.1 st
    have e7 := Cs.2.1.2.2.1
    have hu : 1 - s = 0 ∨ 1 - s = 1 := by omega
    rw [ic_t hs, b116_0 L10, k142 E.1 hs, caln_r, b116_3 L8, e7]
    by_cases a : cA J s (6 * s + 6)
    · have a2 := cA_n.mp a
      rw [if_pos a2, b116_8 L8, k82 L8 (ly_3 E.1 st) (ly_4 E.1 st) Cs.2.1 (ev_N E hs), caln_r, b116_10]
      by_cases mt : cM J s (6 * s + 6)
      · obtain ⟨P, hP, e155⟩ := k155 (v2 := vU) E hs
        rw [b01_t mt, if_neg neg1_ne, b116_13 L10, e155, caln_r, b116_16]
        by_cases w : cW J s (6 * s + 6)
        · have E0 := EV_75 E hP
          obtain ⟨I0, hI0⟩ : ∃ I0, I0 = rowU I 75 (ind P) := ⟨_, rfl⟩
          rw [← hI0] at E0 ⊢
          have Cs0 := ev_s E0 hs
          have l := iv_l V hs
          have h9 := (iv_G V).2.2.2.2 s hs
          have O := E.2.1
          obtain ⟨h1, I1, e83, D1, R1, S1, O1, X1, r1, f1⟩ := k83 (h := h) (I := I0) (J := J) (st := sto s) (s := s) (v2 := vU) st (ly_S E.1) L8 (ly_3 E.1 st) (ly_4k E.1 st) (ly_4 E.1 st) O Cs0.1 Cs0.2.1 (iv_Q V) T (iv_Z V) (iv_RD V hs) hs (iv_116 V) (iv_117 V) (by omega)
          have Y1 := LYB_X X1 E.1
          obtain ⟨I2, e81, g1, g2, g3, g4⟩ := k81 (h := h1) (I := I1) (st := sto s) (v1 := vU) (ly_8 Y1 st)
          have d3 := (ev_C E0).2.1.2.1
          obtain ⟨VY, SY, fY, TK⟩ := cm_I V hs hn
          have z20 : owz (sto s + 20) = 4 := if_neg (by omega)
          have cond : (s = 0 ∨ s = 1) ∧ cA J s (6 * s + 6) ∧ (cM J s (6 * s + 6) → cW J s (6 * s + 6)) := ⟨hs, a, fun _ => w⟩
          have own : ∀ c, c < 140 → ∀ k a, hR h (sto s + 20) k = some a → c < a ∨ a + 4 < c := fun c hc k a ha => by
            have := (O.2.1 _ _ _ (by unfold OAr; omega) ha).1.1
            omega
          have n140 := O.1
          rw [iP_t cond, iP_t mt]
          refine ⟨h1, I2, ?_, RS_tr (I0 := I0) (fun c c0 c1 => by rw [hI0, rowU_ne (by omega)]) (RS_nt E0 hs (fun a ha => fY a (by omega)) (SY (1 - s) hu (by omega)) ⟨?_, SC_x S1 (fun c h1 h2 => g1 c h1 h2) g3 g4, ?_⟩ X1 (by decide) (by decide) O1 (fun x k ox _ hx => r1 x k ox hx) (fun c hc hN ha => ?_)), RD2_of V hs (SY (1 - s) hu (by omega)) (RD_c (J := kN (bF (dO J s 4 0) s 6) s (dO J s 4 0 104 s)) (fun a ha => cX_f (by omega)) R1)⟩
          · rw [b01_t w, if_pos neg1_ne, b116_18, if_neg neg1_ne, b116_20 L10 L8, d3, e83, caln_v, b116_24 (ly_8 Y1 st), e81, caln_v, b116_26 (Or.inr rfl), ic_t cond.2, oc_0]
          · exact DC_J TK hs (fun a ha => cX_f (by omega)) (DC_I O1 (by omega) (fun c hc => g1 c (by omega) (by omega)) D1)
          · rw [CC_I (I := I0) (fun c c0 c1 => by rw [g1 c (by omega) (by omega), f1 c (by omega) (by omega) (own c (by omega))])]
            exact CC_f (fun a ha => fY a (by omega)) Cs0.2.2
          · rw [g1 c (by omega) (by omega), f1 c (by omega) hN (fun k a hka => by
              have := ha (sto s + 20) k a (Or.inr rfl) hka
              rw [z20] at this
              exact this)]
        · have nc : ¬(cA J s (6 * s + 6) ∧ (cM J s (6 * s + 6) → cW J s (6 * s + 6))) := fun q => w (q.2 mt)
          rw [iP_f (fun q => nc q.2), ic_f nc]
          exact ⟨hThr h, _, by rw [b01_f w, if_neg (fun t => t rfl), b116_17]; rfl, RS_75x E hP, RD2_r V⟩
      · have cond : (s = 0 ∨ s = 1) ∧ cA J s (6 * s + 6) ∧ (cM J s (6 * s + 6) → cW J s (6 * s + 6)) := ⟨hs, a, fun q => absurd q mt⟩
        obtain ⟨I2, e81, g1, g2, g3, g4⟩ := k81 (h := h) (I := I) (st := sto s) (v1 := vU) L8
        have S := (IVX_cX (IVX_of V) hs).2 (1 - s) hu (by omega)
        rw [iP_t cond, iP_f mt]
        refine ⟨h, I2, ?_, RS_op E hs (fun a ha => cX_f (by omega)) S ⟨DC_J T hs (fun a ha => cX_f (by omega)) (DC_I E.2.1 (by omega) (fun c hc => g1 c (by omega) (by omega)) Cs.1), SC_x Cs.2.1 (fun c h1 h2 => g1 c h1 h2) g3 g4, ?_⟩ (fun c hc => g1 c (by omega) (by omega)), RD2_c V (fun a ha => cX_f (by omega))⟩
        · rw [b01_f mt, if_pos rfl, b116_18, if_pos rfl, b116_24 L8, e81, caln_v, b116_26 (Or.inl rfl), ic_t cond.2, oc_0]
        · rw [CC_I (I := I) (fun c c0 c1 => g1 c (by omega) (by omega))]
          exact CC_f (fun a ha => cX_f (by omega)) Cs.2.2
    · have a2 : ¬eN J s ≠ 0 := fun q => a (cA_n.mpr q)
      rw [iP_f (fun q => a q.2.1), ic_f (fun q => a q.1)]
      exact ⟨hThr h, I, by rw [if_neg a2, b116_7]; rfl, RS_x E, RD2_r V⟩
  · rw [iP_f (fun q => hs q.1), ic_f hs]
    exact ⟨hThr h, I, by rw [b116_0 L10, k142x hs, caln_x]; rfl, RS_x E, RD2_r V⟩
theorem aw_cA {s k : Int} (g : AW I J) : cA J s k = cA I s k := by
  unfold cA
  rw [g.1 129 (by decide) (by decide)]
theorem aw_cM {s k : Int} (g : AW I J) : cM J s k = cM I s k := by
  unfold cM
  rw [g.1 129 (by decide) (by decide), g.1 115 (by decide) (by decide), g.1 130 (by decide) (by decide)]
theorem aw_cW {s k : Int} (g : AW I J) : cW J s k = cW I s k := by
  unfold cW
  rw [g.1 129 (by decide) (by decide), g.1 131 (by decide) (by decide), aw_Wh g]
theorem s116 {s : Int} (E : EV n h I I) (S : WSc I) (hn : n ≤ 512) : STEP 116 [.inr (.inl (some 1)), .inl s, vU, vU] 219 [.inr (.inl (some 94)), .inl s, vU, vU, vU, vU] eC n h I :=
  STEP_mkx (c := fun J => cmC J s) (v := fun J => b01 (cM J s (6 * s + 6))) (K := fun J => cmK J s) (X := RD2) E S eC_i (fun J => ic_3 (by decide) (by decide) (by decide)) (fun J E => k116 E hn)
    (fun h2 I2 L V S => by
      obtain ⟨P, hP, e⟩ := r219 (h := h2) (I := I2) (s := s) (w2 := vU) (w3 := vU) (w4 := vU) (w5 := vU) L (iv_T V) (iv_E V) (WSc_133e S) (fun s hs => by have := (iv_G V).2.2.2.2 s hs; have := iv_l V hs; have := iv_eN (J := I2) (s := s); omega)
      obtain ⟨J, hJ⟩ : ∃ J, J = rowU (tH I2 0) 133 (ind P) := ⟨_, rfl⟩
      have g : AW I2 J := by rw [hJ]; exact AW_U (AW_t (AW_r I2)) (Or.inl (by decide))
      have V2 : INV n J := by rw [aw_INV g]; exact V
      have f : ∀ a, a ≠ 94 → a ≠ 133 → J a = I2 a := fun a h1 h2 => by rw [hJ, rowU_ne h2, tH_n h1]
      have tJ : tH J 0 = J := by rw [hJ, tH_rU (by decide), tH_tH]
      have j49 : J 94 49 = 0 := by rw [← tJ, tH_49]
      have W : WSc J := by rw [hJ]; exact WSc_133 (WSc_t S) hP
      rw [e, ← hJ]
      refine ⟨J, ?_⟩
      unfold cmC cmK
      dsimp only
      by_cases hs : s = 0 ∨ s = 1
      · rw [if_pos hs, ic_t hs]
        unfold cC
        rw [tJ]
        by_cases c : cA J s (6 * s + 6) ∧ (cM J s (6 * s + 6) → cW J s (6 * s + 6))
        · rw [if_pos c, ic_t c, iP_t ⟨hs, c⟩]
          by_cases d : cM J s (6 * s + 6)
          · obtain ⟨VY, SY, fY, TK⟩ := cm_I V2 hs hn
            rw [if_pos d, iP_t d, b01_t d]
            exact ⟨_, _, g, rfl, by show cmY J s 94 49 = 0; rw [fY 94 (by decide), j49], fun _ => rfl, fun a ha => by show cmY J s a = _; rw [fY a (by omega), f a (by omega) (by omega)], AW_r _, fun R => INV_x VY rfl R, WSc_k (I := J) (fun a a0 a1 => by show cmY J s a = _; rw [fY a (by omega)]) W⟩
          · rw [if_neg d, iP_f d, b01_f d]
            exact ⟨_, _, g, rfl, by rw [cX_f (by decide), j49], fun _ => rfl, fun a ha => by rw [cX_f (by omega), f a (by omega) (by omega)], AW_r _, fun R => INV_x (IVX_cX (IVX_of V2) hs).1 rfl R, WSc_k (I := J) (fun a a0 a1 => cX_f (by omega)) W⟩
        · rw [if_neg c, ic_f c, iP_f (fun q => c q.2)]
          exact ⟨_, _, g, rfl, tH_49, (fun q => absurd q (by decide)), fun a ha => by rw [tH_n (by omega), f a (by omega) (by omega)], AW_t (AW_r _), fun _ => INV_s V2, WSc_t W⟩
      · rw [if_neg hs, ic_f hs, iP_f (fun q => hs q.1)]
        exact ⟨_, _, g, rfl, tH_49, (fun q => absurd q (by decide)), fun a ha => tH_n (by omega), AW_tr (AW_s g) (AW_t (AW_r I2)), fun _ => INV_s V2, WSc_t S⟩)
end OPS8
