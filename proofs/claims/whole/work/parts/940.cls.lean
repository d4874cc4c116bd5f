/-! ===== the calls (23): push ===== -/
section OPS17
variable {n m : Int} {h h1 : HP} {I I1 J K M D : Nat → Int → Int}
theorem vr_y {y : Int} (V : INV n J) (hy : 0 ≤ y ∧ y ≤ J 94 0) : vrO J (y - 1) = tp J y := by
  by_cases c : y = 0
  · subst c
    have : kdO J (0 - 1) = -1 := by
      unfold kdO
      rw [if_neg (by omega)]
    unfold vrO tp
    rw [this, if_neg (by decide), if_pos rfl]
    decide
  · exact vr_tp (iv_R V).1 (by omega)
theorem tp_r {y : Int} (V : INV n J) (hy : 0 ≤ y ∧ y ≤ J 94 0) (hk : y ≠ 0 → 2 ≤ J 95 (y - 1)) : tp J y = -1 ∨ 0 ≤ tp J y ∧ tp J y < J 94 0 := by
  by_cases c : y = 0
  · left
    unfold tp
    rw [if_pos c]
  · right
    exact (tp_v (iv_R V).1 (iv_WV V) ⟨by omega, hy.2⟩ (hk c)).1
noncomputable def puC (J : Nat → Int → Int) (u r : Int) : Int := ic (urI u r) (ic (f1 J u r ∧ f2 J u r 0 0 1) 0 2) 1
noncomputable def puK (J : Nat → Int → Int) (u r : Int) : Nat → Int → Int := iP (urI u r ∧ f1 J u r ∧ f2 J u r 0 0 1) (feN J u r 0 0) J
theorem k137 {u r : Int} {v3 v4 : MV} (E : EV n h I J) (hn : n < 512) : ∃ h1 I1, Go 137 0 [.inr (.inl (some 1)), .inl u, .inl r, v3, v4] [] (mI h I) = some (mI h1 I1, oc eC (puC J u r) (fN J u r 0 0)) ∧ RS h I h1 I1 (puK J u r) ∧ INV (n + 1) (puK J u r) := by
  have L10 := ly_10 E.1
  have V := ev_V E
  have hT := iv_t V
  unfold puC puK
  by_cases hu : u = 0 ∨ u = 1
  rotate_left
  · rw [ic_f (fun q => hu q.1), iP_f (fun q => hu q.1.1)]
    exact ⟨hThr h, I, by rw [b137_0 L10, k142x hu, caln_x]; rfl, RS_x E, INV_s V⟩
  rw [b137_0 L10, k142 E.1 hu, caln_r, b137_3 L10]
  by_cases hr : 0 ≤ r ∧ r ≤ 5
  rotate_left
  · rw [ic_f (fun q => hr q.2), iP_f (fun q => hr q.1.2)]
    exact ⟨hThr h, I, by rw [k146x hr, caln_x]; rfl, RS_x E, INV_s V⟩
  have st := sto_o (s := 1 - u)
  have ht : 1 - u = 0 ∨ 1 - u = 1 := by omega
  rw [k146 hr, caln_v, b137_7 L10, ic_t ⟨hu, hr⟩]
  obtain ⟨p1, p2⟩ := k159 (u := u) (r := r) (l := 0) (hf := 0) (v5 := vU) (v6 := vU) E hu hr (by decide) (Or.inl rfl)
  by_cases c : f1 J u r ∧ fG J u r 0 0
  rotate_left
  · obtain ⟨I1, e1, E1, fr⟩ := p2 c
    rw [ic_f (fun q => c ⟨q.1, q.2.2⟩), iP_f (fun q => c ⟨q.2.1, q.2.2.2⟩)]
    exact ⟨hThr h, I1, by rw [e1, caln_x]; rfl, RS_t (RS_e E1 (fun c c0 c1 => fr c (by omega) c1)) (XT_w (XT_r h) (by decide) (by decide)), INV_s V⟩
  obtain ⟨I1, e1, E1, P1, fr⟩ := p1 c
  obtain ⟨y, hy⟩ : ∃ y, y = J 115 (6 * (1 - u) + r) := ⟨_, rfl⟩
  have yr := iv_WR V (6 * (1 - u) + r) (by omega) (by omega)
  have yk := iv_WRk V (6 * (1 - u) + r) (by omega) (by omega)
  rw [← hy] at yr yk
  have e8 : I1 (sto (1 - u) + 8) r = y - 1 := by rw [hy]; exact (ev_N E1 ht).1 r hr.1 (by omega)
  have tr := tp_r V yr yk
  have i87 : I1 87 (tp J y) = b01 (Wn J u (J 115 (6 * u + r)) 0 (tp J y)) := by rw [P1.2.1]; rfl
  have fr2 : ∀ c, 94 ≤ c → c ≤ 139 → I1 c = I c := fun c c0 c1 => fr c (by omega) c1
  have good : f2 J u r 0 0 1 → ∃ h5 I5, Go 137 36 [.inr (.inl (some 1)), .inl u, .inl r, .inr (.inl (some ((sto u)))), .inl (tp J y)] [] (mI h I1) = some (mI h5 I5, oc eC (ic (f1 J u r ∧ f2 J u r 0 0 1) 0 2) (fN J u r 0 0)) ∧ RS h I h5 I5 (iP (urI u r ∧ f1 J u r ∧ f2 J u r 0 0 1) (feN J u r 0 0) J) ∧ INV (n + 1) (iP (urI u r ∧ f1 J u r ∧ f2 J u r 0 0 1) (feN J u r 0 0) J) := fun q => by
    obtain ⟨h5, I5, e5, R5, V5⟩ := k160 (v4 := vU) E1 hn hu hr c.1 c.2 P1
    rw [ic_t ⟨c.1, q⟩, iP_t ⟨⟨hu, hr⟩, c.1, q⟩]
    refine ⟨h5, I5, ?_, RS_tr (I0 := I1) fr2 R5, V5⟩
    rw [b137_36 L10, k143 E.1 hu, caln_r, b137_41 L10, e5, caln_r, b137_43]
    rfl
  rw [e1, caln_v, b137_13 L10, k143 E.1 hu, caln_r, b137_18 (ly_8 E.1 st) (ly_3 E.1 st) (ly_4 E.1 st) (by omega) (ly_0 E.1), e8, k10 (ly_0 E.1) (ev_B E1) (iv_R V), vr_y V yr, caln_r, b137_24]
  by_cases c1 : tp J y = -1
  · rw [if_pos c1]
    exact good ⟨fun _ q => by rw [← hy, c1] at q; omega, c.2⟩
  rw [if_neg c1, b137_28 L10 (ly_83 E.1) (ly_86 E.1) (by omega), i87]
  by_cases c2 : Wn J u (J 115 (6 * u + r)) 0 (tp J y)
  · rw [b01_t c2, if_pos (by decide)]
    exact good ⟨fun _ _ => by rw [← hy]; exact c2, c.2⟩
  · have nf : ¬f2 J u r 0 0 1 := fun q => c2 (by
      have := q.1 (by decide) (by rw [← hy]; omega)
      rw [← hy] at this
      exact this)
    rw [b01_f c2, if_neg (fun q => q rfl), b137_35, ic_f (fun q => nf q.2), iP_f (fun q => nf q.2.2)]
    exact ⟨hThr h, I1, rfl, RS_t (RS_e E1 fr2) (XT_w (XT_r h) (by decide) (by decide)), INV_s V⟩
theorem s137 {u r : Int} (E : EV n h I I) (S : WSc I) (hn : n < 512) : STEP 137 [.inr (.inl (some 1)), .inl u, .inl r, vU, vU] 267 [.inr (.inl (some 94)), .inl u, .inl r] eC n h I :=
  STEP_mkx (c := fun J => puC J u r) (v := fun J => fN J u r 0 0) (K := fun J => puK J u r) (X := fun K => INV (n + 1) K) E S eC_i (fun J => by unfold puC; have := ic_r (p := urI u r) (ic_r (p := f1 J u r ∧ f2 J u r 0 0 1) (x := 0) (y := 2) (by decide) (by decide)) (y := 1) (by decide); omega) (fun J E => k137 E hn)
    (fun h2 I2 L V S => by
      have g0 : AW I2 (tH I2 0) := AW_t (AW_r I2)
      have bad : ∀ (X : Nat → Int → Int) (t : Int), AW I2 X → AW X (tH I2 t) := fun X t g => AW_tr (AW_s g) (AW_t (AW_r I2))
      have hl6 : ∀ t, t = 0 ∨ t = 1 → 0 ≤ I2 119 t ∧ I2 119 t < 600 := fun t ht => by
        have a := (iv_G V).2.2.2.2 t ht
        have b := iv_l V ht
        have c := iv_eN (J := I2) (s := t)
        omega
      obtain ⟨Y, e, hF, e6⟩ := r267 (h := h2) (I := I2) (en_ := enm I2) (u := u) (r := r) L (iv_T V) (iv_WV V) (iv_WR V) (iv_WRk V) (iv_N V) (iv_X V) (enm_s V) S (iv_117 V) hl6
      rw [e6]
      unfold puC puK
      dsimp only
      by_cases c1 : urI u r
      rotate_left
      · refine ⟨tH I2 0, _, _, g0, by rw [if_neg (show ¬((u = 0 ∨ u = 1) ∧ (0 ≤ r ∧ r ≤ 5)) from c1)], ?_⟩
        rw [ic_f c1, iP_f (fun q => c1 q.1)]
        exact ⟨tH_49, (fun q => absurd q (by decide)), fun a ha => tH_n (by omega), bad _ 1 g0, id, WSc_t S⟩
      have F := hF c1
      have yf : ∀ a, a < 94 ∨ 138 < a → Y a = I2 a := fun a ha => by rw [F.1 a (by omega), tH_n (by omega)]
      by_cases c3 : f1 I2 u r ∧ f2 I2 u r 0 0 1
      · obtain ⟨g, eN⟩ := feN_P V c1.1 c1.2 F c3.1 c3.2
        refine ⟨tH Y 0, _, _, g, by rw [if_pos (show (u = 0 ∨ u = 1) ∧ (0 ≤ r ∧ r ≤ 5) from c1), if_pos (by rw [aw_f1 g0, aw_f2 g0]; exact c3)], ?_⟩
        have c3' : f1 (tH Y 0) u r ∧ f2 (tH Y 0) u r 0 0 1 := by rw [aw_f1 g, aw_f2 g]; exact c3
        rw [ic_t c1, ic_t c3', iP_t ⟨c1, c3'⟩, eN]
        have hi : ∀ a, a < 101 ∨ (131 < a ∧ a < 134) ∨ 137 < a → feN (tH Y 0) u r 0 0 a = tH Y 0 a := fun a ha => by
          unfold feN
          rw [nF_f (by omega), fQ_f (by omega)]
          unfold fJ
          rw [rowU_ne (by omega), rowU_ne (by omega), rowU_ne (by omega), rowU_ne (by omega)]
        refine ⟨by rw [hi 94 (by decide), tH_49], fun _ => by rw [aw_fN g, aw_fN g0], fun a ha => by rw [hi a (by omega), tH_n (by omega), yf a ha], AW_r _, id, ?_⟩
        have SJ : WSc (fJ (tH Y 0) u r 0 0) := fun a a0 a1 => by
          have V2 : INV n (tH Y 0) := by rw [aw_INV g]; exact V
          have w := Wn_t (l := 0) V2 c1.1 c1.2 c3'.1.2
          have hT := iv_t V2
          obtain ⟨z4, z5, z6, z7⟩ := fJ_r (J := tH Y 0) (u := u) (r := r) (l := 0) (hf := 0)
          have s3 : ∀ P : Int → Prop, (∀ j, P j → 0 ≤ j ∧ j < tH Y 0 94 0) → S3 P := fun P q j p => by have := q j p; omega
          by_cases d4 : a = 134
          · subst d4; exact ⟨_, s3 _ w.1, z4⟩
          by_cases d5 : a = 135
          · subst d5; exact ⟨_, s3 _ w.2, z5⟩
          by_cases d6 : a = 136
          · subst d6; exact ⟨_, s3 _ (fun j q => w.1 j q.1), z6⟩
          by_cases d7 : a = 137
          · subst d7; exact ⟨_, s3 _ (fun j q => w.1 j q.1), z7⟩
          unfold fJ
          rw [rowU_ne d7, rowU_ne d6, rowU_ne d5, rowU_ne d4]
          exact WSc_t F.2.1 a a0 a1
        exact fun a a0 a1 => by
          have := WSc_fQ (u := u) (r := r) (l := 0) (hf := 0) SJ a a0 a1
          unfold feN
          rw [nF_f (by omega)]
          exact this
      · have gY : AW I2 (tH Y 2) := AW_tr g0 (AW_tr (AW_c (X := Y) (fun c c0 c1 => F.1 c (Or.inl c1))) (AW_t (AW_r Y)))
        refine ⟨tH I2 0, _, _, g0, by rw [if_pos (show (u = 0 ∨ u = 1) ∧ (0 ≤ r ∧ r ≤ 5) from c1), if_neg (by rw [aw_f1 g0, aw_f2 g0]; exact c3)], ?_⟩
        have c3' : ¬(f1 (tH I2 0) u r ∧ f2 (tH I2 0) u r 0 0 1) := by rw [aw_f1 g0, aw_f2 g0]; exact c3
        rw [ic_t c1, ic_f c3', iP_f (fun q => c3' q.2)]
        exact ⟨tH_49, (fun q => absurd q (by decide)), fun a ha => by rw [tH_n (by omega), yf a ha], AW_tr (AW_s g0) gY, id, WSc_t F.2.1⟩)
end OPS17
