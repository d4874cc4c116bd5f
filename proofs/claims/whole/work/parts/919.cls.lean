/-! ===== the calls (4): put, clear, tick, line, pin, missingAt ===== -/
section CAL
variable {n : Int} {h : HP} {I J : Nat → Int → Int}
noncomputable def eM (J : Nat → Int → Int) (s : Int) : Int → Int := @Classical.epsilon (Int → Int) ⟨fun _ => 0⟩ (EnM J s)
theorem eM_s {s : Int} (V : INV n J) (hs : s = 0 ∨ s = 1) : EnM J s (eM J s) := @Classical.epsilon_spec _ (EnM J s) (EnM_ex (iv_R V).1 (iv_WR V) (iv_N V) hs)
theorem aw_EnM (g : AW I J) {s : Int} : EnM J s = EnM I s := by
  unfold EnM mN
  rw [aw_Mi g, g.1 98 (by decide) (by decide), aw_0 g]
theorem aw_mN (g : AW I J) {s : Int} : mN J s = mN I s := by
  unfold mN
  rw [aw_Mi g, aw_0 g]
theorem aw_eM (g : AW I J) {s : Int} : eM J s = eM I s := by
  unfold eM
  rw [aw_EnM g]
theorem s140 {s p : Int} (E : EV n h I I) (S : WSc I) : STEP 140 [.inr (.inl (some 1)), .inl s, .inl p, vU, vU, vU, vU] 272 [.inr (.inl (some 94)), .inl s, .inl p, vU] eA n h I :=
  STEP_mk (c := fun J => ic ((s = 0 ∨ s = 1) ∧ 0 ≤ p ∧ p < mN J s) 0 1) (v := fun J => J 98 (eM J s p)) (K := fun J => J) E S eA_i (fun _ => ic_01) (fun J E => k140 E (fun hs => eM_s (ev_V E) hs))
    (fun h2 I2 L V S J hJ => by
      subst hJ
      dsimp only
      have g := AW_t (x := 0) (AW_r I2)
      obtain ⟨P, hP, e⟩ := r272 (h := h2) (I := I2) (s := s) (p := p) (e := eM I2 s) (v3 := vU) L (iv_T V) (WSc_133e S) (iv_WR V) (iv_N V) (fun hs => eM_s V hs)
      have V2 : INV (n + 1) (tH I2 0) := INV_s (by rw [aw_INV g]; exact V)
      rw [e, aw_mN g, aw_eM g, g.1 98 (by decide) (by decide)]
      by_cases hs : s = 0 ∨ s = 1
      · rw [if_pos hs]
        by_cases c : 0 ≤ p ∧ p < mN I2 s
        · rw [aq_t c, ic_t ⟨hs, c⟩]
          exact ⟨_, _, rfl, by rw [rowU_ne (by decide), tH_49], fun _ => rfl, fun a ha => by rw [rowU_ne (by omega)]; exact tH_n (by omega), AW_U (AW_r _) (Or.inl (by decide)), V2, WSc_133 (WSc_t S) hP⟩
        · rw [aq_f c, ic_f (fun q => c q.2)]
          refine ⟨_, _, rfl, tH_49, (fun q => absurd q (by decide)), fun a ha => by rw [tH_n (by omega), rowU_ne (by omega)], ?_, V2, WSc_t (WSc_133 S hP)⟩
          exact AW_t (AW_U (AW_s g) (Or.inl (by decide)))
      · rw [if_neg hs, ic_f (fun q => hs q.1)]
        exact ⟨_, _, rfl, tH_49, (fun q => absurd q (by decide)), fun a ha => tH_n (by omega), aw_tJ I2 1, V2, WSc_t S⟩)
/-! what depends on the draft alone, on the time alone .. -/
theorem INV_g {m : Int} {K : Nat → Int → Int} (V : INV n J) (f : ∀ a, (95 ≤ a ∧ a ≤ 98) ∨ (101 ≤ a ∧ a ≤ 131) → K a = J a) (f0 : K 94 0 = J 94 0) (hm : n ≤ m) (hD : WD K) (h8 : 0 ≤ K 94 8 ∧ K 94 8 ≤ 100 * m ∧ K 94 8 ≤ 1000000) (h9 : K 94 9 = 0 ∨ K 94 9 = 1) (h41 : 0 ≤ K 94 41 ∧ K 94 41 ≤ 100) : INV m K := by
  obtain ⟨a, b, c, d, e, g, i, j, l, o, q⟩ := V
  have eRB : RB K = RB J := by rw [RB_J f0 (f 95 (by decide)) (f 96 (by decide)) (f 97 (by decide)) (f 98 (by decide))]
  have eWB : WB K = WB J := WB_e f0 (f 95 (by decide)) (f 96 (by decide)) (f 97 (by decide)) (f 98 (by decide))
  have eWK : WK K = WK J := WK_e f0 (f 108 (by decide)) (f 111 (by decide)) (f 112 (by decide)) (f 113 (by decide))
  have eWU : WU K = WU J := by unfold WU; rw [f0, f 95 (by decide), f 96 (by decide), f 97 (by decide)]
  have eWT : WT K = WT J := by
    unfold WT WL WN
    rw [eWB, eWK, f 101 (by decide), f 103 (by decide), f 107 (by decide), f 118 (by decide), f 109 (by decide), f 104 (by decide), f 97 (by decide)]
  have eat : atR K = atR J := by
    funext o j
    unfold atR fnd
    rw [f0, f 97 (by decide), f 98 (by decide)]
  have eLk : Lk K = Lk J := by unfold Lk; rw [f 95 (by decide), f 96 (by decide)]
  have eWV : WV1 K = WV1 J := by unfold WV1; rw [eLk, eat, f0, f 95 (by decide)]
  have eVs : Vs K = Vs J := by unfold Vs; rw [f0, f 95 (by decide)]
  have eSb : Sb K = Sb J := by unfold Sb; rw [eat]
  have eNt : NtOK K = NtOK J := by unfold NtOK AcOK; rw [eVs, eSb, f0, f 95 (by decide), f 96 (by decide)]
  have elv : ∀ s o (t : Nat), lv K s o t = lv J s o t := fun s o t => by
    induction t with
    | zero =>
      show (if K 102 (120 * s + o) = 0 then (0 : Int) else 1) = if J 102 (120 * s + o) = 0 then 0 else 1
      rw [f 102 (by decide)]
    | succ t ih =>
      unfold lv
      rw [ih, f 105 (by decide), f 106 (by decide)]
  have eRD : RD K = RD J := by
    funext s
    unfold RD CN nC
    rw [f 101 (by decide), f 104 (by decide), f 109 (by decide), f 115 (by decide), f 116 (by decide), f 117 (by decide), f 118 (by decide), f 119 (by decide), f 120 (by decide), f 121 (by decide), f 122 (by decide), nv_c (J := J) (K := K) _ (fun k _ _ => by rw [f 105 (by decide), f 106 (by decide)]; exact ⟨rfl, rfl⟩)]
    have epv : ∀ p, pv K s p (J 104 s).toNat = pv J s p (J 104 s).toNat := fun p => pv_c (by rw [f 110 (by decide)]) _ (fun k _ _ => by rw [f 105 (by decide), f 106 (by decide)]; exact ⟨rfl, rfl⟩)
    simp only [elv, epv]
  have eIs : INVs K = INVs J := by
    unfold INVs NtC SlN SlU NL
    rw [eRD, eNt, f 104 (by decide), f 105 (by decide), f 115 (by decide), f 116 (by decide), f 118 (by decide), f 119 (by decide), f 120 (by decide), f 121 (by decide), f 122 (by decide)]
  refine ⟨⟨by rw [eRB]; exact a.1, by rw [eWU]; exact a.2.1, hD⟩, by rw [eWT]; exact b, by rw [f 110 (by decide), f 116 (by decide), f 117 (by decide), f 127 (by decide)]; exact c, ⟨?_, ?_, ?_, ?_⟩, ⟨?_, ?_, ?_, ?_⟩, ⟨by rw [f 126 (by decide)]; exact g.1, by rw [eWV]; exact g.2⟩, by rw [eIs]; exact i, h9, h41, ⟨h8.1, h8.2.1⟩, fun s hs => ?_⟩
  · unfold WE2 WE; rw [f0, f 95 (by decide), f 129 (by decide), f 131 (by decide)]; exact d.1
  · have w := d.2.1
    unfold WG at w ⊢
    rw [f0, f 119 (by decide), f 123 (by decide), f 124 (by decide), f 125 (by decide), f 126 (by decide)]
    exact ⟨w.1, w.2.1, w.2.2.1, ⟨h8.1, h8.2.2⟩, w.2.2.2.2⟩
  · unfold WQ2 WQc; rw [f0, f 104 (by decide), f 105 (by decide), f 106 (by decide), f 108 (by decide)]; exact d.2.2.1
  · unfold WO2 WO; rw [f 121 (by decide), f 122 (by decide)]; exact d.2.2.2
  · unfold PM; rw [f 108 (by decide), f 109 (by decide), f 110 (by decide)]; exact e.1
  · unfold PDs PD; rw [f 108 (by decide), f 111 (by decide), f 112 (by decide)]; exact e.2.1
  · unfold ZO; rw [f0, f 101 (by decide), f 102 (by decide)]; exact e.2.2.1
  · unfold ZP7; rw [f0, f 127 (by decide)]; exact e.2.2.2
  · have eN_ : eN K s = eN J s := by unfold eN; rw [f 129 (by decide)]
    rw [f 119 (by decide), eN_]
    have := q s hs
    omega
theorem CPL_g {A K : Nat → Int → Int} (C : CPL h I J) (T : WT J) (O : OWN h) (f : ∀ a, (95 ≤ a ∧ a ≤ 98) ∨ (101 ≤ a ∧ a ≤ 131) → K a = J a) (f0 : K 94 0 = J 94 0) (hA : ∀ a, (2 ≤ a ∧ a ≤ 73) ∨ 140 ≤ a → A a = I a) (hD : CD A K) (hW : CWl A K) (hR : CR A K) : CPL h A K := by
  have eat : atR K = atR J := by
    funext o j
    unfold atR fnd
    rw [f0, f 97 (by decide), f 98 (by decide)]
  have eEg : Eg K = Eg J := by unfold Eg Lk; rw [eat, f 95 (by decide), f 96 (by decide), f 116 (by decide)]
  have cc : ∀ c s, CC I J c s → CC I K c s := fun c s q => by
    unfold CC chN
    rw [eEg, f0, f 128 (by decide)]
    exact q
  have cs : ∀ st s, st = 10 ∨ st = 42 → s = 0 ∨ s = 1 → CS h I J st s → CS h A K st s := fun st s hst hs q => CS_I O hst (fun c hc => hA c (by omega)) ⟨DC_J T hs (fun a ha => f a (by omega)) q.1, by rw [SC_J (J := J) (fun c hc => f c (by omega))]; exact q.2.1, cc _ _ q.2.2⟩
  refine ⟨?_, hD, ⟨cs 10 0 (Or.inl rfl) (Or.inl rfl) C.2.2.1.1, cs 42 1 (Or.inr rfl) (Or.inr rfl) C.2.2.1.2⟩, hW, hR⟩
  · rw [BC_J f0 (f 95 (by decide)) (f 96 (by decide)) (f 97 (by decide)) (f 98 (by decide))]
    have B := C.1
    unfold BC at B ⊢
    rw [hA 2 (by decide), hA 3 (by decide), hA 4 (by decide), hA 5 (by decide), hA 6 (by decide), hA 7 (by decide), hA 8 (by decide), hA 9 (by decide)]
    exact B
theorem up1_94 {k x : Int} (hk : k ≠ 49) : rowU (tH J 0) 94 (up1 (tH J 0 94) k x) = tH (rowU J 94 (up1 (J 94) k x)) 0 := by
  unfold tH
  rw [rowU_tw, rowU_tw, rowU_eq, rowU_eq]
  have : up1 (up1 (J 94) 49 0) k x = up1 (up1 (J 94) k x) 49 0 := funext (fun j => by
    by_cases c : j = k
    · subst c; rw [up1_eq, up1_ne hk, up1_eq]
    · rw [up1_ne c]
      by_cases d : j = 49
      · subst d; rw [up1_eq, up1_eq]
      · rw [up1_ne d, up1_ne d, up1_ne c])
  rw [this]
end CAL
