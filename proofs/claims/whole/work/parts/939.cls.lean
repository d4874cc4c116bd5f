/-! ===== the calls (22): fetch; push ===== -/
section OPS16
variable {n m : Int} {h h1 : HP} {I I1 J K M D : Nat → Int → Int}
theorem aw_fS (g : AW I J) : fS J = fS I := by
  unfold fS
  rw [aw_Wn g, aw_Hd g, aw_Th g, g.1 115 (by decide) (by decide), g.1 95 (by decide) (by decide), g.1 117 (by decide) (by decide)]
theorem aw_fN (g : AW I J) : fN J = fN I := by
  unfold fN
  rw [aw_fS g, aw_0 g]
theorem aw_f1 (g : AW I J) : f1 J = f1 I := by
  unfold f1
  rw [g.2 9 (by decide), g.1 115 (by decide) (by decide)]
theorem aw_f2a (g : AW I J) : f2a J = f2a I := by
  unfold f2a
  rw [aw_tp g, aw_Wn g, g.1 115 (by decide) (by decide)]
theorem aw_f2 (g : AW I J) : f2 J = f2 I := by
  unfold f2
  rw [aw_f2a g, aw_fS g, aw_Gd g, aw_fN g, g.1 108 (by decide) (by decide)]
theorem aw_fG (g : AW I J) : fG J = fG I := by
  unfold fG
  rw [aw_fS g, aw_Gd g, aw_fN g, g.1 108 (by decide) (by decide)]
theorem aw_PLN {A : Nat → Int → Int} (g : AW I J) : PLN A J = PLN A I := by
  unfold PLN
  rw [aw_fS g, aw_fN g, aw_Wn g, aw_Hd g, g.1 115 (by decide) (by decide)]
noncomputable def fJ (J : Nat → Int → Int) (u r l hf : Int) : Nat → Int → Int := rowU (rowU (rowU (rowU J 134 (ind (Wn J u (J 115 (6 * u + r)) l))) 135 (ind (Hd J (1 - u)))) 136 (ind (fS J u r l hf))) 137 (ind (fS J u r l hf))
theorem fJ_g {u r l hf : Int} : AW J (fJ J u r l hf) := AW_U (AW_U (AW_U (AW_U (AW_r J) (Or.inl (by decide))) (Or.inl (by decide))) (Or.inl (by decide))) (Or.inl (by decide))
theorem fJ_r {u r l hf : Int} : fJ J u r l hf 134 = ind (Wn J u (J 115 (6 * u + r)) l) ∧ fJ J u r l hf 135 = ind (Hd J (1 - u)) ∧ fJ J u r l hf 136 = ind (fS J u r l hf) ∧ fJ J u r l hf 137 = ind (fS J u r l hf) := by
  unfold fJ
  exact ⟨by rw [rowU_ne (by decide), rowU_ne (by decide), rowU_ne (by decide), rowU_eq], by rw [rowU_ne (by decide), rowU_ne (by decide), rowU_eq], by rw [rowU_ne (by decide), rowU_eq], rowU_eq⟩
theorem fQ_f {u r l hf : Int} {a : Nat} (h : (a < 101 ∨ (114 < a ∧ a < 120) ∨ 122 < a) ∧ a ≠ 136) : fQ J u r l hf a = J a := by
  unfold fQ
  split
  · exact pkF_f h
  · rfl
noncomputable def feN (J : Nat → Int → Int) (u r l hf : Int) : Nat → Int → Int := nF (fQ (fJ J u r l hf) u r l hf) u (1 - u) r (fN J u r l hf)
theorem k160 {u r l hf : Int} {v4 : MV} (E : EV n h I J) (hn : n < 512) (hu : u = 0 ∨ u = 1) (hr : 0 ≤ r ∧ r ≤ 5) (F1 : f1 J u r) (G : fG J u r l hf) (P : PLN I J u r l hf) :
    ∃ h5 I5, Go 160 0 [.inr (.inl (some 1)), .inr (.inl (some ((sto u)))), .inr (.inl (some ((sto (1 - u))))), .inl r, v4] [] (mI h I) = some (mI h5 I5, .inl (some (.inl (fN J u r l hf)))) ∧ RS h I h5 I5 (feN J u r l hf) ∧ INV (n + 1) (feN J u r l hf) := by
  unfold feN
  obtain ⟨Z, hZ⟩ : ∃ Z, Z = fJ J u r l hf := ⟨_, rfl⟩
  rw [← hZ]
  have g : AW J Z := by rw [hZ]; exact fJ_g
  obtain ⟨z4, z5, z6, z7⟩ := fJ_r (J := J) (u := u) (r := r) (l := l) (hf := hf)
  rw [← hZ] at z4 z5 z6 z7
  have EZ := EV_w g E
  have V := ev_V E
  obtain ⟨h1, I1, v, e1, E1, X1, f1⟩ := k160a (v4 := v4) EZ hu hr (by rw [aw_f1 g]; exact F1) (by rw [aw_fG g]; exact G) (by rw [aw_PLN g]; exact P) (by rw [aw_Hd g]; exact z5) (by rw [aw_fS g]; exact z6)
  obtain ⟨i84, i87, i89, i83⟩ := P
  have q94 : fQ Z u r l hf 94 0 = J 94 0 := by rw [fQ_f (by decide), aw_0 g]
  obtain ⟨h5, I5, e5, O5, C5, V5, X5, f5⟩ := k160b (o := fN J u r l hf) (v4 := v) (t := 1 - u) (W := Wn J u (J 115 (6 * u + r)) l) (H := Hd J (1 - u)) (S := fS J u r l hf) E1 hn hu rfl hr (by rw [f1 84 (by decide) (by decide) (by decide)]; exact i84) (by rw [f1 87 (by decide) (by decide) (by decide)]; exact i87) (by rw [f1 89 (by decide) (by decide) (by decide)]; exact i89) (by rw [fQ_f (by decide)]; exact z4) (by rw [fQ_f (by decide)]; exact z5) (by rw [fQ_f (by decide)]; exact z7) (fun j q => by rw [q94]; exact (Wn_t (l := l) V hu hr F1.2).1 j q)
  refine ⟨h5, I5, ?_, ⟨XT_w (XT_t X1 X5) (by decide) (by decide), O5, C5, fun c c0 c1 => by rw [f5 c c0 c1, f1 c (by omega) c1 (by omega)]⟩, V5⟩
  rw [e1, e5, f1 83 (by decide) (by decide) (by decide), i83]
theorem nF_f {u t r o : Int} {a : Nat} (h : a < 101 ∨ 131 < a) : nF J u t r o a = J a := by
  have k : ∀ B : Nat → Int → Int, nK B t a = B a := fun B => by rw [nK_M, kN_f (by omega) (by omega) (by omega), nM_f (by omega) (by omega)]
  unfold nF
  have e : ∀ B : Nat → Int → Int, nE B t a = B a := fun B => by
    unfold nE
    split
    · rw [rowU_ne (by omega), k]
    · exact k B
  rw [e, bE_f (by omega), dO_f (by omega)]
theorem WSc_fQ {u r l hf : Int} (S : WSc J) : WSc (fQ J u r l hf) := by
  unfold fQ
  split
  · exact WSc_pkF S
  · exact S
/-- the reference's memory after a fetch -/
theorem feN_P {Y : Nat → Int → Int} {e : Int → Int} {u r l hf p : Int} (V : INV n I) (hu : u = 0 ∨ u = 1) (hr : 0 ≤ r ∧ r ≤ 5) (F : fW (tH I 0) Y (enm I) e u r l hf p) (F1 : f1 I u r) (F2 : f2 I u r l hf p) :
    AW I (tH Y 0) ∧ nF (fP (tH I 0) Y (enm I) e u r l hf) u (1 - u) r (fN (tH I 0) u r l hf) = feN (tH Y 0) u r l hf := by
  have g0 : AW I (tH I 0) := AW_t (AW_r I)
  have g : AW I (tH Y 0) := by
    refine AW_tr g0 (AW_tr (AW_c (X := Y) (fun c c0 c1 => F.1 c (Or.inl c1))) (AW_t (AW_r Y)))
  refine ⟨g, ?_⟩
  obtain ⟨J, hJ⟩ : ∃ J, J = tH Y 0 := ⟨_, rfl⟩
  rw [← hJ] at g ⊢
  have V2 : INV n J := by rw [aw_INV g]; exact V
  have hT := iv_t V2
  obtain ⟨⟨y4, y5, y6, y7⟩, q⟩ := F.2.2 (by rw [aw_f1 g0]; exact F1)
  have eJ : fJ J u r l hf = J := by
    have x : ∀ a, a ≠ 94 → J a = Y a := fun a ha => by rw [hJ, tH_n ha]
    have c4 : ind (Wn J u (J 115 (6 * u + r)) l) = J 134 := by rw [x 134 (by decide), y4, aw_Wn g, g.1 115 (by decide) (by decide), aw_Wn g0, g0.1 115 (by decide) (by decide)]
    have c5 : ind (Hd J (1 - u)) = J 135 := by rw [x 135 (by decide), y5, aw_Hd g, aw_Hd g0]
    have c6 : ind (fS J u r l hf) = J 136 := by rw [x 136 (by decide), y6, aw_fS g, aw_fS g0]
    have c7 : ind (fS J u r l hf) = J 137 := by rw [x 137 (by decide), y7, aw_fS g, aw_fS g0]
    unfold fJ
    rw [c4, c5, c6]
    rw [c6] at c7
    rw [rowU_id, rowU_id, rowU_id, c7, rowU_id]
  have j6 : J 136 = ind (fS J u r l hf) := by rw [hJ, tH_n (by decide), y6, ← hJ, aw_fS g, aw_fS g0]
  unfold feN
  rw [eJ, aw_fN g0, aw_fN g]
  have eP : fP (tH I 0) Y (enm I) e u r l hf = fQ J u r l hf := by
    unfold fP fQ
    rw [aw_fN g0, aw_fN g, ← hJ]
    by_cases c : 0 < fN I u r l hf
    · rw [if_pos c, if_pos c, ← aw_enm g]
      have fe := (q (by rw [aw_f2 g0]; exact F2) (by rw [aw_fN g0]; exact c)).1
      have sr : ∀ j, fS J u r l hf j → 0 ≤ j ∧ j < J 94 0 := fun j z => (Wn_t (l := l) V2 hu hr (by rw [g.1 115 (by decide) (by decide)]; exact F1.2)).1 j z.1
      have fe2 : Enum (fS J u r l hf) (KO J) (fN J u r l hf) e := by
        rw [aw_fS g0, aw_KO g0, aw_fN g0] at fe
        rw [aw_fS g, aw_KO g, aw_fN g]
        exact fe
      have q2 := eKO_s (P := fS J u r l hf) (iv_N V2) hT.1 sr
      have uq := (Enum_u (TO_KO (iv_N V2) sr) fe2 q2 (cN_b _).1 (cN_b _).1).2
      have cc : cN (fun z => J 136 z ≠ 0) (J 94 0).toNat = fN J u r l hf := cN_136 j6
      exact pkF_e (fun i i0 i1 => uq i i0 (by rw [cc] at i1; exact i1))
    · rw [if_neg c, if_neg c]
  rw [eP]
-- fetch
def urI (u r : Int) : Prop := (u = 0 ∨ u = 1) ∧ (0 ≤ r ∧ r ≤ 5)
noncomputable def feC (J : Nat → Int → Int) (u r l hf : Int) : Int := ic (urI u r) (ic (0 ≤ l ∧ l ≤ 20) (ic (f1 J u r ∧ f2 J u r l hf 0) 0 3) 2) 1
noncomputable def feK (J : Nat → Int → Int) (u r l hf : Int) : Nat → Int → Int := iP (urI u r ∧ (0 ≤ l ∧ l ≤ 20) ∧ f1 J u r ∧ f2 J u r l hf 0) (feN J u r l hf) J
theorem f2_0 {u r l hf : Int} : f2 J u r l hf 0 ↔ fG J u r l hf := ⟨fun q => q.2, fun q => ⟨fun z => absurd rfl z, q⟩⟩
theorem k136 {u r l hf : Int} {v5 : MV} (E : EV n h I J) (hn : n < 512) (hh : hf = 0 ∨ hf = 1) : ∃ h1 I1, Go 136 0 [.inr (.inl (some 1)), .inl u, .inl r, .inl l, .inl hf, v5] [] (mI h I) = some (mI h1 I1, oc eA (feC J u r l hf) (fN J u r l hf)) ∧ RS h I h1 I1 (feK J u r l hf) ∧ INV (n + 1) (feK J u r l hf) := by
  have L10 := ly_10 E.1
  have V := ev_V E
  unfold feC feK
  by_cases hu : u = 0 ∨ u = 1
  rotate_left
  · rw [ic_f (fun q => hu q.1), iP_f (fun q => hu q.1.1)]
    exact ⟨hThr h, I, by rw [b136_0 L10, k142x hu, caln_x]; rfl, RS_x E, INV_s V⟩
  rw [b136_0 L10, k142 E.1 hu, caln_r, b136_3 L10]
  by_cases hr : 0 ≤ r ∧ r ≤ 5
  rotate_left
  · rw [ic_f (fun q => hr q.2), iP_f (fun q => hr q.1.2)]
    exact ⟨hThr h, I, by rw [k146x hr, caln_x]; rfl, RS_x E, INV_s V⟩
  rw [k146 hr, caln_v, b136_7, ic_t ⟨hu, hr⟩]
  by_cases hl : 0 ≤ l ∧ l ≤ 20
  rotate_left
  · rw [ic_f hl, iP_f (fun q => hl q.2.1)]
    refine ⟨hThr h, I, ?_, RS_x E, INV_s V⟩
    by_cases c : l < 0
    · rw [if_pos c, b136_12]; rfl
    · rw [if_neg c, b136_9, if_neg (by omega), b136_12]; rfl
  rw [if_neg (by omega), b136_9, if_pos (by omega), b136_13 L10, ic_t hl]
  obtain ⟨p1, p2⟩ := k159 (u := u) (r := r) (l := l) (hf := hf) (v5 := vU) (v6 := vU) E hu hr hl hh
  by_cases c : f1 J u r ∧ f2 J u r l hf 0
  · obtain ⟨I1, e1, E1, P1, fr⟩ := p1 ⟨c.1, f2_0.mp c.2⟩
    obtain ⟨h5, I5, e5, R5, V5⟩ := k160 (v4 := vU) E1 hn hu hr c.1 (f2_0.mp c.2) P1
    rw [ic_t c, iP_t ⟨⟨hu, hr⟩, hl, c⟩]
    refine ⟨h5, I5, ?_, RS_tr (I0 := I1) (fun c c0 c1 => fr c (by omega) c1) R5, V5⟩
    rw [e1, caln_v, b136_19 L10, k143 E.1 hu, caln_r, b136_24 L10, e5, caln_r, b136_26]
    rfl
  · obtain ⟨I1, e1, E1, fr⟩ := p2 (fun q => c ⟨q.1, f2_0.mpr q.2⟩)
    rw [ic_f c, iP_f (fun q => c q.2.2)]
    exact ⟨hThr h, I1, by rw [e1, caln_x]; rfl, RS_t (RS_e E1 (fun c c0 c1 => fr c (by omega) c1)) (XT_w (XT_r h) (by decide) (by decide)), INV_s V⟩
theorem s136 {u r l hf : Int} (E : EV n h I I) (S : WSc I) (hn : n < 512) (hh : hf = 0 ∨ hf = 1) : STEP 136 [.inr (.inl (some 1)), .inl u, .inl r, .inl l, .inl hf, vU] 266 [.inr (.inl (some 94)), .inl u, .inl r, .inl l, .inl hf] eA n h I :=
  STEP_mkx (c := fun J => feC J u r l hf) (v := fun J => fN J u r l hf) (K := fun J => feK J u r l hf) (X := fun K => INV (n + 1) K) E S eA_i (fun J => by unfold feC; have := ic_r (p := urI u r) (ic_r (p := 0 ≤ l ∧ l ≤ 20) (ic_r (p := f1 J u r ∧ f2 J u r l hf 0) (x := 0) (y := 3) (by decide) (by decide)) (y := 2) (by decide)) (y := 1) (by decide); omega) (fun J E => k136 E hn hh)
    (fun h2 I2 L V S => by
      have g0 : AW I2 (tH I2 0) := AW_t (AW_r I2)
      have bad : ∀ (X : Nat → Int → Int) (t : Int), AW I2 X → AW X (tH I2 t) := fun X t g => AW_tr (AW_s g) (AW_t (AW_r I2))
      have hl6 : ∀ t, t = 0 ∨ t = 1 → 0 ≤ I2 119 t ∧ I2 119 t < 600 := fun t ht => by
        have a := (iv_G V).2.2.2.2 t ht
        have b := iv_l V ht
        have c := iv_eN (J := I2) (s := t)
        omega
      obtain ⟨Y, e, hF, e6⟩ := r266 (h := h2) (I := I2) (en_ := enm I2) (u := u) (r := r) (l := l) (hf := hf) L (iv_T V) (iv_WV V) (iv_WR V) (iv_WRk V) (iv_N V) (iv_X V) (enm_s V) S (iv_117 V) hl6
      rw [e6]
      unfold feC feK
      dsimp only
      by_cases c1 : urI u r
      rotate_left
      · refine ⟨tH I2 0, _, _, g0, by rw [if_neg (show ¬((u = 0 ∨ u = 1) ∧ (0 ≤ r ∧ r ≤ 5)) from c1)], ?_⟩
        rw [ic_f c1, iP_f (fun q => c1 q.1)]
        exact ⟨tH_49, (fun q => absurd q (by decide)), fun a ha => tH_n (by omega), bad _ 1 g0, id, WSc_t S⟩
      by_cases c2 : 0 ≤ l ∧ l ≤ 20
      rotate_left
      · refine ⟨tH I2 0, _, _, g0, by rw [if_pos (show (u = 0 ∨ u = 1) ∧ (0 ≤ r ∧ r ≤ 5) from c1), if_neg c2], ?_⟩
        rw [ic_t c1, ic_f c2, iP_f (fun q => c2 q.2.1)]
        exact ⟨tH_49, (fun q => absurd q (by decide)), fun a ha => tH_n (by omega), bad _ 2 g0, id, WSc_t S⟩
      have F := hF c1 c2
      have yf : ∀ a, a < 94 ∨ 138 < a → Y a = I2 a := fun a ha => by rw [F.1 a (by omega), tH_n (by omega)]
      by_cases c3 : f1 I2 u r ∧ f2 I2 u r l hf 0
      · obtain ⟨g, eN⟩ := feN_P V c1.1 c1.2 F c3.1 c3.2
        refine ⟨tH Y 0, _, _, g, by rw [if_pos (show (u = 0 ∨ u = 1) ∧ (0 ≤ r ∧ r ≤ 5) from c1), if_pos c2, if_pos (by rw [aw_f1 g0, aw_f2 g0]; exact c3)], ?_⟩
        have c3' : f1 (tH Y 0) u r ∧ f2 (tH Y 0) u r l hf 0 := by rw [aw_f1 g, aw_f2 g]; exact c3
        rw [ic_t c1, ic_t c2, ic_t c3', iP_t ⟨c1, c2, c3'⟩, eN]
        have hi : ∀ a, a < 101 ∨ (131 < a ∧ a < 134) ∨ 137 < a → feN (tH Y 0) u r l hf a = tH Y 0 a := fun a ha => by
          unfold feN
          rw [nF_f (by omega), fQ_f (by omega)]
          unfold fJ
          rw [rowU_ne (by omega), rowU_ne (by omega), rowU_ne (by omega), rowU_ne (by omega)]
        refine ⟨by rw [hi 94 (by decide), tH_49], fun _ => by rw [aw_fN g, aw_fN g0], fun a ha => by rw [hi a (by omega), tH_n (by omega), yf a ha], AW_r _, id, ?_⟩
        have SJ : WSc (fJ (tH Y 0) u r l hf) := fun a a0 a1 => by
          have V2 : INV n (tH Y 0) := by rw [aw_INV g]; exact V
          have w := Wn_t (l := l) V2 c1.1 c1.2 c3'.1.2
          have hT := iv_t V2
          obtain ⟨z4, z5, z6, z7⟩ := fJ_r (J := tH Y 0) (u := u) (r := r) (l := l) (hf := hf)
          have s3 : ∀ P : Int → Prop, (∀ j, P j → 0 ≤ j ∧ j < tH Y 0 94 0) → S3 P := fun P q j p => by have := q j p; omega
          by_cases d4 : a = 134
          · subst d4; exact ⟨_, s3 _ w.1, z4⟩
          by_cases d5 : a = 135
          · subst d5; exact ⟨_, s3 _ w.2, z5⟩
          by_cases d6 : a = 136
          · subst d6; exact ⟨_, s3 _ (fun j q => w.1 j q.1), z6⟩
          by_cases d7 : a = 137
          · subst d7; exact ⟨_, s3 _ (fun j q => w.1 j q.1), z7⟩
          unfold fJ
          rw [rowU_ne d7, rowU_ne d6, rowU_ne d5, rowU_ne d4]
          exact WSc_t F.2.1 a a0 a1
        exact fun a a0 a1 => by
          have := WSc_fQ (u := u) (r := r) (l := l) (hf := hf) SJ a a0 a1
          unfold feN
          rw [nF_f (by omega)]
          exact this
      · have gY : AW I2 (tH Y 3) := AW_tr g0 (AW_tr (AW_c (X := Y) (fun c c0 c1 => F.1 c (Or.inl c1))) (AW_t (AW_r Y)))
        refine ⟨tH I2 0, _, _, g0, by rw [if_pos (show (u = 0 ∨ u = 1) ∧ (0 ≤ r ∧ r ≤ 5) from c1), if_pos c2, if_neg (by rw [aw_f1 g0, aw_f2 g0]; exact c3)], ?_⟩
        have c3' : ¬(f1 (tH I2 0) u r ∧ f2 (tH I2 0) u r l hf 0) := by rw [aw_f1 g0, aw_f2 g0]; exact c3
        rw [ic_t c1, ic_t c2, ic_f c3', iP_f (fun q => c3' q.2.2)]
        exact ⟨tH_49, (fun q => absurd q (by decide)), fun a ha => by rw [tH_n (by omega), yf a ha], AW_tr (AW_s g0) gY, id, WSc_t F.2.1⟩)
end OPS16
