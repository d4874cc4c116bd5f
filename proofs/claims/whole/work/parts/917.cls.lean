/-! ===== the calls (2): queries ===== -/
section QRY
variable {n : Int} {h : HP} {I J : Nat → Int → Int}
theorem fr_t {x : Int} (V : INV n J) (hx : 0 ≤ fnd J x) : 0 ≤ fnd J x ∧ fnd J x < J 94 0 := ⟨hx, (fnd_lt (I := J) (x := x) (iv_t V).1).2.1⟩
theorem fr_100 {x : Int} (V : INV n J) (hx : 0 ≤ fnd J x) : 0 ≤ fnd J x ∧ fnd J x < 100 := by
  have := fr_t V hx
  have := iv_t V
  omega
-- told
theorem k105 (E : EV n h I J) : Go 105 0 [.inr (.inl (some 1))] [] (mI h I) = some (mI h I, .inl (some (.inl (J 94 0)))) := by
  rw [b105_0 (ly_10 E.1) (ly_0 E.1), (ev_B E).1]
theorem s105 (E : EV n h I I) (S : WSc I) : STEP 105 [.inr (.inl (some 1))] 201 [.inr (.inl (some 94))] eA n h I :=
  STEP_mk (c := fun _ => 0) (v := fun J => J 94 0) (K := fun J => J) E S eA_i (fun _ => Or.inl rfl) (fun J E => ⟨h, I, k105 E, RS_r E⟩) (fun h2 I2 L V S J hJ => by
    subst hJ
    exact ⟨tH I2 0, I2 94 0, r201 L, tH_49, fun _ => (tH_94 (by decide)).symm, fun a ha => tH_n (by omega), AW_r _, INV_s (by rw [aw_INV (AW_t (AW_r I2))]; exact V), WSc_t S⟩)
-- kind
theorem k106 {x : Int} (E : EV n h I J) : ∃ h1 I1, Go 106 0 [.inr (.inl (some 1)), .inl x] [] (mI h I) = some (mI h1 I1, oc eA (ic (0 ≤ fnd J x) 0 1) (J 95 (fnd J x))) ∧ RS h I h1 I1 J := by
  have L0 := ly_0 E.1
  by_cases c : 0 ≤ fnd J x
  · exact ⟨h, I, by rw [ic_t c, oc_0, b106_0 (ly_10 E.1), k144 E c, caln_r, b106_5 L0, k3 L0 (ev_B E) (iv_R (ev_V E)), caln_r, b106_6, kdO_t (fr_t (ev_V E) c)], RS_r E⟩
  · exact ⟨hThr h, I, by rw [ic_f c, b106_0 (ly_10 E.1), k144x E c, caln_x]; rfl, RS_x E⟩
theorem s106 {x : Int} (E : EV n h I I) (S : WSc I) : STEP 106 [.inr (.inl (some 1)), .inl x] 203 [.inr (.inl (some 94)), .inl x] eA n h I :=
  STEP_mk (c := fun J => ic (0 ≤ fnd J x) 0 1) (v := fun J => J 95 (fnd J x)) (K := fun J => J) E S eA_i (fun _ => ic_01) (fun J E => k106 E)
    (REF_aq (p := fun J => 0 ≤ fnd J x) (v := fun J => J 95 (fnd J x)) (fun I J g => by rw [aw_fnd g, g.1 95 (by decide) (by decide)]; exact ⟨rfl, rfl⟩) (fun h2 I2 L V S => r203 L (WB_t (iv_R V).1)))
-- length
theorem k107 {x : Int} (E : EV n h I J) : ∃ h1 I1, Go 107 0 [.inr (.inl (some 1)), .inl x] [] (mI h I) = some (mI h1 I1, oc eA (ic (0 ≤ fnd J x) 0 1) (J 96 (fnd J x))) ∧ RS h I h1 I1 J := by
  have L0 := ly_0 E.1
  by_cases c : 0 ≤ fnd J x
  · exact ⟨h, I, by rw [ic_t c, oc_0, b107_0 (ly_10 E.1), k144 E c, caln_r, b107_5 L0, k5 L0 (ev_B E) (iv_R (ev_V E)), caln_r, b107_6, lnO_t (fr_t (ev_V E) c)], RS_r E⟩
  · exact ⟨hThr h, I, by rw [ic_f c, b107_0 (ly_10 E.1), k144x E c, caln_x]; rfl, RS_x E⟩
theorem s107 {x : Int} (E : EV n h I I) (S : WSc I) : STEP 107 [.inr (.inl (some 1)), .inl x] 204 [.inr (.inl (some 94)), .inl x] eA n h I :=
  STEP_mk (c := fun J => ic (0 ≤ fnd J x) 0 1) (v := fun J => J 96 (fnd J x)) (K := fun J => J) E S eA_i (fun _ => ic_01) (fun J E => k107 E)
    (REF_aq (p := fun J => 0 ≤ fnd J x) (v := fun J => J 96 (fnd J x)) (fun I J g => by rw [aw_fnd g, g.1 96 (by decide) (by decide)]; exact ⟨rfl, rfl⟩) (fun h2 I2 L V S => r204 L (WB_t (iv_R V).1)))
-- part
theorem k108 {x j : Int} (E : EV n h I J) : ∃ h1 I1, Go 108 0 [.inr (.inl (some 1)), .inl x, .inl j] [] (mI h I) = some (mI h1 I1, oc eA (ic (hP J x j) 0 1) (J 97 (12 * fnd J x + j))) ∧ RS h I h1 I1 J := by
  have L10 := ly_10 E.1
  by_cases c : 0 ≤ fnd J x
  · by_cases d : 0 ≤ j ∧ j < J 96 (fnd J x)
    · exact ⟨h, I, by rw [ic_t (p := hP J x j) ⟨c, d⟩, oc_0, b108_0 L10, k144 E c, caln_r, b108_4 L10, k148 E (fr_t (ev_V E) c) d, caln_r, b108_6], RS_r E⟩
    · exact ⟨hThr h, I, by rw [ic_f (p := hP J x j) (fun q => d q.2), b108_0 L10, k144 E c, caln_r, b108_4 L10, k148x E (fr_t (ev_V E) c) d, caln_x]; rfl, RS_x E⟩
  · exact ⟨hThr h, I, by rw [ic_f (p := hP J x j) (fun q => c q.1), b108_0 L10, k144x E c, caln_x]; rfl, RS_x E⟩
theorem aw_hP {x j : Int} (g : AW I J) : hP J x j = hP I x j := by
  unfold hP
  rw [aw_fnd g, g.1 96 (by decide) (by decide)]
theorem s108 {x j : Int} (E : EV n h I I) (S : WSc I) : STEP 108 [.inr (.inl (some 1)), .inl x, .inl j] 206 [.inr (.inl (some 94)), .inl x, .inl j] eA n h I :=
  STEP_mk (c := fun J => ic (hP J x j) 0 1) (v := fun J => J 97 (12 * fnd J x + j)) (K := fun J => J) E S eA_i (fun _ => ic_01) (fun J E => k108 E)
    (REF_aq (p := fun J => hP J x j) (v := fun J => J 97 (12 * fnd J x + j)) (fun I J g => by rw [aw_hP g, aw_fnd g, g.1 97 (by decide) (by decide)]; exact ⟨rfl, rfl⟩) (fun h2 I2 L V S => r206 L (iv_R V).1))
-- where
theorem k110 {s x : Int} {v3 v4 : MV} (E : EV n h I J) : ∃ h1 I1, Go 110 0 [.inr (.inl (some 1)), .inl s, .inl x, v3, v4] [] (mI h I) = some (mI h1 I1, oc eA (ic (qI J s x) 0 1) (wV J s (fnd J x))) ∧ RS h I h1 I1 J := by
  have L10 := ly_10 E.1
  have st := sto_o (s := s)
  by_cases hs : s = 0 ∨ s = 1
  · by_cases c : 0 ≤ fnd J x
    · refine ⟨h, I, ?_, RS_r E⟩
      have V := ev_V E
      have T := iv_T V
      have fr := fr_100 V c
      have D := (ev_s E hs).1
      have e1 : I (sto s + 1 + 1) (fnd J x) = lcI J s (fnd J x) := (D.1.1 _ fr.1 fr.2).1
      have e2 : I (sto s + 1 + 10) (fnd J x) = J 117 (120 * s + fnd J x) := ((ev_N E hs).2.2 _ fr.1 fr.2).2.2
      have l0 := lc_0 (J := J) (s := s) (o := fnd J x) T.2.1
      have b0 := b01_or (0 < J 101 (120 * s + fnd J x))
      have b1 := b01_or (HE J s (fnd J x) 0)
      rw [ic_t (p := qI J s x) ⟨hs, c⟩, oc_0, b110_0 L10, k142 E.1 hs, caln_r, b110_3 (ly_8 E.1 st) L10, k144 E c, caln_r, b110_8 (ly_3 E.1 st) fr, e1]
      have s17 : (if lcI J s (fnd J x) = 0 then Go 110 16 [.inr (.inl (some 1)), .inl s, .inl x, .inr (.inl (some ((sto s + 1)))), .inl (fnd J x)] [] (mI h I) else Go 110 14 [.inr (.inl (some 1)), .inl s, .inl x, .inr (.inl (some ((sto s + 1)))), .inl (fnd J x)] [] (mI h I)) = Go 110 17 [.inr (.inl (some 1)), .inl s, .inl x, .inr (.inl (some ((sto s + 1)))), .inl (fnd J x)] [.inl (b01 (0 < J 101 (120 * s + fnd J x)))] (mI h I) := by
        by_cases q : lcI J s (fnd J x) = 0
        · rw [if_pos q, b110_16, b01_f (fun t => (l0.mpr t) q)]
        · rw [if_neg q, b110_14, b01_t (l0.mp q)]
      have s24 : ∀ z, Go 110 20 [.inr (.inl (some 1)), .inl s, .inl x, .inr (.inl (some ((sto s + 1)))), .inl (fnd J x)] [.inl (b01 (HE J s (fnd J x) 0)), .inl z] (mI h I) = Go 110 24 [.inr (.inl (some 1)), .inl s, .inl x, .inr (.inl (some ((sto s + 1)))), .inl (fnd J x)] [.inl (2 * b01 (HE J s (fnd J x) 0)), .inl z] (mI h I) := fun z => by
        by_cases q : HE J s (fnd J x) 0
        · rw [b01_t q, b110_20, if_neg neg1_ne, b110_21]; rfl
        · rw [b01_f q, b110_20, if_pos rfl, b110_23]; rfl
      rw [s17, b110_17 (ly_3 E.1 st), k35 (ly_3 E.1 st) D (iv_M V) T.2.2.2.1 hs fr, caln_r, s24, b110_24 (by omega) (ly_3 E.1 st) (ly_4 E.1 st) fr, e2]
      unfold wV
      by_cases q : J 117 (120 * s + fnd J x) = 0
      · rw [if_pos q, b110_33, b110_34 (by omega), b01_f (p := J 117 (120 * s + fnd J x) ≠ 0) (fun t => t q)]
        rfl
      · rw [if_neg q, b110_31, b110_34 (by omega), b01_t (p := J 117 (120 * s + fnd J x) ≠ 0) q]
        rfl
    · exact ⟨hThr h, I, by rw [ic_f (p := qI J s x) (fun q => c q.2), b110_0 L10, k142 E.1 hs, caln_r, b110_3 (ly_8 E.1 st) L10, k144x E c, caln_x]; rfl, RS_x E⟩
  · exact ⟨hThr h, I, by rw [ic_f (p := qI J s x) (fun q => hs q.1), b110_0 L10, k142x hs, caln_x]; rfl, RS_x E⟩
theorem aw_qI {s x : Int} (g : AW I J) : qI J s x = qI I s x := by
  unfold qI
  rw [aw_fnd g]
theorem aw_wV {s x : Int} (g : AW I J) : wV J s x = wV I s x := by
  unfold wV
  rw [aw_HE g, g.1 101 (by decide) (by decide), g.1 117 (by decide) (by decide)]
theorem s110 {s x : Int} (E : EV n h I I) (S : WSc I) : STEP 110 [.inr (.inl (some 1)), .inl s, .inl x, vU, vU] 209 [.inr (.inl (some 94)), .inl s, .inl x, vU, vU] eA n h I :=
  STEP_mk (c := fun J => ic (qI J s x) 0 1) (v := fun J => wV J s (fnd J x)) (K := fun J => J) E S eA_i (fun _ => ic_01) (fun J E => k110 E)
    (REF_aq (p := fun J => qI J s x) (v := fun J => wV J s (fnd J x)) (fun I J g => by rw [aw_qI g, aw_fnd g, aw_wV g]; exact ⟨rfl, rfl⟩) (fun h2 I2 L V S => r209 L (WB_t (iv_R V).1) (iv_T V).2.2.2.1))
-- unsynced, logs, chosen, packs
theorem k112 {s : Int} (E : EV n h I J) : ∃ h1 I1, Go 112 0 [.inr (.inl (some 1)), .inl s] [] (mI h I) = some (mI h1 I1, oc eA (ic (s = 0 ∨ s = 1) 0 1) (J 104 s)) ∧ RS h I h1 I1 J := by
  have st := sto_o (s := s)
  by_cases hs : s = 0 ∨ s = 1
  · exact ⟨h, I, by rw [ic_t hs, oc_0, b112_0 (ly_10 E.1), k142 E.1 hs, caln_r, b112_3 (ly_8 E.1 st) (ly_3 E.1 st), (ev_s E hs).1.2.2.2.1], RS_r E⟩
  · exact ⟨hThr h, I, by rw [ic_f hs, b112_0 (ly_10 E.1), k142x hs, caln_x]; rfl, RS_x E⟩
theorem s112 {s : Int} (E : EV n h I I) (S : WSc I) : STEP 112 [.inr (.inl (some 1)), .inl s] 212 [.inr (.inl (some 94)), .inl s] eA n h I :=
  STEP_mk (c := fun _ => ic (s = 0 ∨ s = 1) 0 1) (v := fun J => J 104 s) (K := fun J => J) E S eA_i (fun _ => ic_01) (fun J E => k112 E)
    (REF_aq (p := fun _ => s = 0 ∨ s = 1) (v := fun J => J 104 s) (fun I J g => by rw [g.1 104 (by decide) (by decide)]; exact ⟨rfl, rfl⟩) (fun h2 I2 L V S => r212 L))
theorem k118 {s : Int} (E : EV n h I J) : ∃ h1 I1, Go 118 0 [.inr (.inl (some 1)), .inl s] [] (mI h I) = some (mI h1 I1, oc eA (ic (s = 0 ∨ s = 1) 0 1) (J 119 s)) ∧ RS h I h1 I1 J := by
  have st := sto_o (s := s)
  by_cases hs : s = 0 ∨ s = 1
  · exact ⟨h, I, by rw [ic_t hs, oc_0, b118_0 (ly_10 E.1), k142 E.1 hs, caln_r, b118_3 (ly_8 E.1 st) (ly_3 E.1 st) (ly_4 E.1 st), (ev_N E hs).2.1], RS_r E⟩
  · exact ⟨hThr h, I, by rw [ic_f hs, b118_0 (ly_10 E.1), k142x hs, caln_x]; rfl, RS_x E⟩
theorem s118 {s : Int} (E : EV n h I I) (S : WSc I) : STEP 118 [.inr (.inl (some 1)), .inl s] 222 [.inr (.inl (some 94)), .inl s] eA n h I :=
  STEP_mk (c := fun _ => ic (s = 0 ∨ s = 1) 0 1) (v := fun J => J 119 s) (K := fun J => J) E S eA_i (fun _ => ic_01) (fun J E => k118 E)
    (REF_aq (p := fun _ => s = 0 ∨ s = 1) (v := fun J => J 119 s) (fun I J g => by rw [g.1 119 (by decide) (by decide)]; exact ⟨rfl, rfl⟩) (fun h2 I2 L V S => r222 L))
theorem k125 {s : Int} (E : EV n h I J) : ∃ h1 I1, Go 125 0 [.inr (.inl (some 1)), .inl s] [] (mI h I) = some (mI h1 I1, oc eA (ic (s = 0 ∨ s = 1) 0 1) (chN J s)) ∧ RS h I h1 I1 J := by
  have st := sto_o (s := s)
  by_cases hs : s = 0 ∨ s = 1
  · exact ⟨h, I, by rw [ic_t hs, oc_0, b125_0 (ly_10 E.1), k142 E.1 hs, caln_r, b125_3 (ly_8 E.1 st) (ly_1 E.1 st), (ev_s E hs).2.2.1.1], RS_r E⟩
  · exact ⟨hThr h, I, by rw [ic_f hs, b125_0 (ly_10 E.1), k142x hs, caln_x]; rfl, RS_x E⟩
theorem s125 {s : Int} (E : EV n h I I) (S : WSc I) : STEP 125 [.inr (.inl (some 1)), .inl s] 236 [.inr (.inl (some 94)), .inl s] eA n h I :=
  STEP_mk (c := fun _ => ic (s = 0 ∨ s = 1) 0 1) (v := fun J => chN J s) (K := fun J => J) E S eA_i (fun _ => ic_01) (fun J E => k125 E)
    (REF_aq (p := fun _ => s = 0 ∨ s = 1) (v := fun J => chN J s) (fun I J g => by rw [aw_chN g]; exact ⟨rfl, rfl⟩) (fun h2 I2 L V S => r236 L))
theorem k129 {s : Int} (E : EV n h I J) : ∃ h1 I1, Go 129 0 [.inr (.inl (some 1)), .inl s] [] (mI h I) = some (mI h1 I1, oc eA (ic (s = 0 ∨ s = 1) 0 1) (pcN J s)) ∧ RS h I h1 I1 J := by
  have st := sto_o (s := s)
  by_cases hs : s = 0 ∨ s = 1
  · exact ⟨h, I, by rw [ic_t hs, oc_0, b129_0 (ly_10 E.1), k142 E.1 hs, caln_r, b129_3 (ly_8 E.1 st) (ly_3 E.1 st), k34 (ly_3 E.1 st) (ev_s E hs).1, caln_r, b129_5], RS_r E⟩
  · exact ⟨hThr h, I, by rw [ic_f hs, b129_0 (ly_10 E.1), k142x hs, caln_x]; rfl, RS_x E⟩
theorem s129 {s : Int} (E : EV n h I I) (S : WSc I) : STEP 129 [.inr (.inl (some 1)), .inl s] 250 [.inr (.inl (some 94)), .inl s, vU, vU, vU] eA n h I :=
  STEP_mk (c := fun _ => ic (s = 0 ∨ s = 1) 0 1) (v := fun J => pcN J s) (K := fun J => J) E S eA_i (fun _ => ic_01) (fun J E => k129 E)
    (REF_aq (p := fun _ => s = 0 ∨ s = 1) (v := fun J => pcN J s) (fun I J g => by unfold pcN; rw [g.1 109 (by decide) (by decide)]; exact ⟨rfl, rfl⟩) (fun h2 I2 L V S => r250 L))
-- ref
theorem nm_O (V : INV n J) {x : Int} (hx : 0 ≤ x ∧ x ≤ J 94 0) : nmO J (x - 1) = nm J x := by
  unfold nmO nm
  by_cases c : x = 0
  · rw [if_neg (by omega), if_pos c]
  · rw [if_pos (by omega), if_neg c]
theorem k117 {s r : Int} {v3 : MV} (E : EV n h I J) : ∃ h1 I1, Go 117 0 [.inr (.inl (some 1)), .inl s, .inl r, v3] [] (mI h I) = some (mI h1 I1, oc eA (ic ((s = 0 ∨ s = 1) ∧ 0 ≤ r ∧ r ≤ 5) 0 1) (nm J (J 115 (6 * s + r)))) ∧ RS h I h1 I1 J := by
  have st := sto_o (s := s)
  have L10 := ly_10 E.1
  by_cases hs : s = 0 ∨ s = 1
  · by_cases c : 0 ≤ r ∧ r ≤ 5
    · have V := ev_V E
      have e : I (sto s + 8) r = J 115 (6 * s + r) - 1 := (ev_N E hs).1 r c.1 (by omega)
      have w := iv_WR V (6 * s + r) (by omega) (by omega)
      exact ⟨h, I, by rw [ic_t ⟨hs, c⟩, oc_0, b117_0 L10, k142 E.1 hs, caln_r, b117_3 L10, k146 c, caln_v, b117_7 L10 (ly_8 E.1 st) (ly_3 E.1 st) (ly_4 E.1 st) (by omega) (ly_0 E.1), e, k4 (ly_0 E.1) (ev_B E) (iv_R V), caln_r, b117_16, nm_O V w], RS_r E⟩
    · exact ⟨hThr h, I, by rw [ic_f (fun q => c q.2), b117_0 L10, k142 E.1 hs, caln_r, b117_3 L10, k146x c, caln_x]; rfl, RS_x E⟩
  · exact ⟨hThr h, I, by rw [ic_f (fun q => hs q.1), b117_0 L10, k142x hs, caln_x]; rfl, RS_x E⟩
theorem s117 {s r : Int} (E : EV n h I I) (S : WSc I) : STEP 117 [.inr (.inl (some 1)), .inl s, .inl r, vU] 221 [.inr (.inl (some 94)), .inl s, .inl r] eA n h I :=
  STEP_mk (c := fun _ => ic ((s = 0 ∨ s = 1) ∧ 0 ≤ r ∧ r ≤ 5) 0 1) (v := fun J => nm J (J 115 (6 * s + r))) (K := fun J => J) E S eA_i (fun _ => ic_01) (fun J E => k117 E)
    (REF_aq (p := fun _ => (s = 0 ∨ s = 1) ∧ 0 ≤ r ∧ r ≤ 5) (v := fun J => nm J (J 115 (6 * s + r))) (fun I J g => by unfold nm; rw [g.1 115 (by decide) (by decide), g.1 98 (by decide) (by decide)]; exact ⟨rfl, rfl⟩) (fun h2 I2 L V S => r221 L (WB_t (iv_R V).1) (iv_WR V)))
-- isWhole
theorem k119 {s x : Int} {v3 : MV} (E : EV n h I J) : ∃ h1 I1, Go 119 0 [.inr (.inl (some 1)), .inl s, .inl x, v3] [] (mI h I) = some (mI h1 I1, oc eA (ic (qI J s x) 0 1) (b01 (Wh J s (fnd J x)))) ∧ RS h I h1 I1 J := by
  have st := sto_o (s := s)
  have L10 := ly_10 E.1
  by_cases hs : s = 0 ∨ s = 1
  · by_cases c : 0 ≤ fnd J x
    · have fr := fr_t (ev_V E) c
      refine ⟨h, _, by rw [ic_t (p := qI J s x) ⟨hs, c⟩, oc_0, b119_0 L10, k142 E.1 hs, caln_r, b119_3 L10, k144 E c, caln_r, b119_9 L10, k154 E hs fr, caln_r, b119_10 (b01_or _)], RS_75 E (SL_1 E (fun j q => Cl_lt (iv_R (ev_V E)).1 (fun j q => by rw [q]; exact fr) j q))⟩
    · exact ⟨hThr h, I, by rw [ic_f (p := qI J s x) (fun q => c q.2), b119_0 L10, k142 E.1 hs, caln_r, b119_3 L10, k144x E c, caln_x]; rfl, RS_x E⟩
  · exact ⟨hThr h, I, by rw [ic_f (p := qI J s x) (fun q => hs q.1), b119_0 L10, k142x hs, caln_x]; rfl, RS_x E⟩
theorem S3_Cl {s o : Int} (V : INV n J) (ho : 0 ≤ o ∧ o < J 94 0) : S3 (Cl (Eg J s) (fun j => j = o)) := S3_l (iv_R V).1 (fun j q => Cl_lt (iv_R V).1 (fun j q => by rw [q]; exact ho) j q)
theorem WSc_133e (S : WSc I) : ∃ P, S3 P ∧ I 133 = ind P := S 133 (by decide) (by decide)
theorem s119 {s x : Int} (E : EV n h I I) (S : WSc I) : STEP 119 [.inr (.inl (some 1)), .inl s, .inl x, vU] 223 [.inr (.inl (some 94)), .inl s, .inl x] eA n h I :=
  STEP_mk (c := fun J => ic (qI J s x) 0 1) (v := fun J => b01 (Wh J s (fnd J x))) (K := fun J => J) E S eA_i (fun _ => ic_01) (fun J E => k119 E)
    (REF_aq3 (p := fun J => qI J s x) (v := fun J => b01 (Wh J s (fnd J x))) (x := fun J => Cl (Eg J s) (fun j => j = fnd J x)) (fun I J g => by rw [aw_qI g, aw_Wh g, aw_fnd g]; exact ⟨rfl, rfl⟩) (fun h2 I2 L V S => r223 L (iv_R V).1 (iv_T V).2.2.2.1 (Z_S3 (WSc_133e S))) (fun I2 V q => S3_Cl V (fr_t V q.2)))
-- isShallow
theorem k120 {s x : Int} {v3 : MV} (E : EV n h I J) : ∃ h1 I1, Go 120 0 [.inr (.inl (some 1)), .inl s, .inl x, v3] [] (mI h I) = some (mI h1 I1, oc eA (ic (qI J s x) 0 1) (b01 (J 116 (120 * s + fnd J x) ≠ 0))) ∧ RS h I h1 I1 J := by
  have st := sto_o (s := s)
  have L10 := ly_10 E.1
  by_cases hs : s = 0 ∨ s = 1
  · by_cases c : 0 ≤ fnd J x
    · have fr := fr_100 (ev_V E) c
      have e : I (sto s + 10) (fnd J x) = J 116 (120 * s + fnd J x) := ((ev_N E hs).2.2 _ fr.1 fr.2).2.1
      have b := iv_116 (ev_V E) (120 * s + fnd J x)
      have l : hK h (sto s + 10) = (1, 100) := LX_k (ly_4 E.1 st) 2 false 3 1 100 rfl
      have e2 : J 116 (120 * s + fnd J x) = b01 (J 116 (120 * s + fnd J x) ≠ 0) := b01_v b (by omega)
      refine ⟨h, I, by rw [ic_t (p := qI J s x) ⟨hs, c⟩, oc_0, b120_0 L10, k142 E.1 hs, caln_r, b120_3 (ly_8 E.1 st) (ly_3 E.1 st) (ly_4 E.1 st) L10, k144 E c, caln_r, b120_11 l fr (by rw [e]; exact b), e, ← e2], RS_r E⟩
    · exact ⟨hThr h, I, by rw [ic_f (p := qI J s x) (fun q => c q.2), b120_0 L10, k142 E.1 hs, caln_r, b120_3 (ly_8 E.1 st) (ly_3 E.1 st) (ly_4 E.1 st) L10, k144x E c, caln_x]; rfl, RS_x E⟩
  · exact ⟨hThr h, I, by rw [ic_f (p := qI J s x) (fun q => hs q.1), b120_0 L10, k142x hs, caln_x]; rfl, RS_x E⟩
theorem s120 {s x : Int} (E : EV n h I I) (S : WSc I) : STEP 120 [.inr (.inl (some 1)), .inl s, .inl x, vU] 224 [.inr (.inl (some 94)), .inl s, .inl x] eA n h I :=
  STEP_mk (c := fun J => ic (qI J s x) 0 1) (v := fun J => b01 (J 116 (120 * s + fnd J x) ≠ 0)) (K := fun J => J) E S eA_i (fun _ => ic_01) (fun J E => k120 E)
    (REF_aq (p := fun J => qI J s x) (v := fun J => b01 (J 116 (120 * s + fnd J x) ≠ 0)) (fun I J g => by rw [aw_qI g, aw_fnd g, g.1 116 (by decide) (by decide)]; exact ⟨rfl, rfl⟩) (fun h2 I2 L V S => r224 L (WB_t (iv_R V).1)))
-- walkAt
theorem k123 {x : Int} (E : EV n h I J) : ∃ h1 I1, Go 123 0 [.inr (.inl (some 1)), .inl x] [] (mI h I) = some (mI h1 I1, oc eA (ic (0 ≤ x ∧ x < J 94 41) 0 1) (J 132 x)) ∧ RS h I h1 I1 J := by
  have L10 := ly_10 E.1
  have V := ev_V E
  obtain ⟨w1, w2⟩ := (ev_C E).2.2.2.1
  have h41 := iv_41 V
  by_cases c : 0 ≤ x
  · by_cases d : x < J 94 41
    · obtain ⟨r, e⟩ := w2 x c d
      have en : nmO J (I 80 x) = J 132 x := by rw [← e]; exact if_pos r
      exact ⟨h, I, by rw [ic_t ⟨c, d⟩, oc_0, b123_0, if_neg (by omega), b123_2 L10 (ly_76 E.1), w1, if_pos d, b123_8 L10 (ly_76 E.1) (by omega) (ly_0 E.1), k4 (ly_0 E.1) (ev_B E) (iv_R V), caln_r, b123_16, en], RS_r E⟩
    · exact ⟨hThr h, I, by rw [ic_f (fun q => d q.2), b123_0, if_neg (by omega), b123_2 L10 (ly_76 E.1), w1, if_neg d, b123_7]; rfl, RS_x E⟩
  · exact ⟨hThr h, I, by rw [ic_f (fun q => c q.1), b123_0, if_pos (by omega), b123_7]; rfl, RS_x E⟩
theorem s123 {x : Int} (E : EV n h I I) (S : WSc I) : STEP 123 [.inr (.inl (some 1)), .inl x] 233 [.inr (.inl (some 94)), .inl x] eA n h I :=
  STEP_mk (c := fun J => ic (0 ≤ x ∧ x < J 94 41) 0 1) (v := fun J => J 132 x) (K := fun J => J) E S eA_i (fun _ => ic_01) (fun J E => k123 E)
    (REF_aq (p := fun J => 0 ≤ x ∧ x < J 94 41) (v := fun J => J 132 x) (fun I J g => by rw [g.2 41 (by decide), g.1 132 (by decide) (by decide)]; exact ⟨rfl, rfl⟩) (fun h2 I2 L V S => r233 L (by have := iv_41 V; omega)))
-- reach
theorem e_mk {s x : Int} (E : EV n h I J) (hs : s = 0 ∨ s = 1) (hx : 0 ≤ x ∧ x < J 94 0) : ∃ P, S1 P ∧ mI h I = mI h (rowU I 75 (ind P)) ∧ Go 71 0 [.inr (.inl (some 74)), vU] [] (mI h (rowU I 75 (ind P))) = some (mI h (rowU I 75 (ind (fun _ => False))), .inl none) ∧ Go 72 0 [.inr (.inl (some 74)), .inl x] [] (mI h (rowU I 75 (ind (fun _ => False)))) = some (mI h (rowU I 75 (ind (fun j => j = x))), .inl none) := by
  obtain ⟨P, hP, e75⟩ := ev_75 E
  have hT := iv_t (ev_V E)
  refine ⟨P, hP, by rw [← e75, rowU_id], k71 (a := 74) (ly_74 E.1) hP, ?_⟩
  refine (k72 (a := 74) (I := I) (P := fun _ => False) (x := x) (ly_74 E.1)).trans ?_
  rw [ind_c (Q := fun j => j = x) (fun j => ⟨fun q => q.elim False.elim And.right, fun q => Or.inr ⟨by omega, q⟩⟩)]
theorem rc_100 {s x : Int} (V : INV n J) (hx : 0 ≤ x ∧ x < J 94 0) : cN (Cl (Eg J s) (fun j => j = x)) 100 = rcN J s x := by
  have hT := iv_t V
  exact cN_x 100 (by omega) (fun k q => by have := Cl_lt (iv_R V).1 (fun j q => by rw [q]; exact hx) k q; omega)
theorem k126 {s x : Int} {v3 v4 : MV} (E : EV n h I J) : ∃ h1 I1, Go 126 0 [.inr (.inl (some 1)), .inl s, .inl x, v3, v4] [] (mI h I) = some (mI h1 I1, oc eA (ic (qI J s x) 0 1) (rcN J s (fnd J x))) ∧ RS h I h1 I1 J := by
  have st := sto_o (s := s)
  have L10 := ly_10 E.1
  have L7 := ly_74 E.1
  have V := ev_V E
  by_cases hs : s = 0 ∨ s = 1
  · by_cases c : 0 ≤ fnd J x
    · have fr := fr_t V c
      obtain ⟨P, hP, e1, e71, e72⟩ := e_mk E hs fr
      have e76 : Go 76 0 [.inr (.inl (some 74)), .inr (.inl (some ((sto s + 7)))), .inr (.inl (some ((sto s + 21)))), vU] [] (mI h (rowU I 75 (ind (fun j => j = fnd J x)))) = some (mI h (rowU I 75 (ind (Cl (Eg J s) (fun j => j = fnd J x)))), .inl none) :=
        k76 (a := 74) (P := fun j => j = fnd J x) (s := s) (ly_0 E.1) L7 (ly_4 E.1 st) (ly_1 E.1 st) (ev_B E) (iv_R V) (iv_Sh V) (ShC_N (ev_N E hs) (iv_t V).2) (ev_s E hs).2.2 (by decide) (by omega) (by omega) hs (fun j q => by rw [q]; exact fr)
      refine ⟨h, _, by rw [ic_t (p := qI J s x) ⟨hs, c⟩, oc_0, b126_0 L10, k142 E.1 hs, caln_r, b126_3 L10, k144 E c, caln_r, b126_7 L10 L7, e1, e71, caln_v, b126_11 L10 L7, e72, caln_v, b126_15 L10 (ly_8 E.1 st) (ly_3 E.1 st) L7, e76, caln_v, b126_23 L10 L7, k73 (a := 74) L7 rowU_eq, caln_r, b126_26, rc_100 V fr], RS_75 E (SL_1 E (fun j q => Cl_lt (iv_R V).1 (fun j q => by rw [q]; exact fr) j q))⟩
    · exact ⟨hThr h, I, by rw [ic_f (p := qI J s x) (fun q => c q.2), b126_0 L10, k142 E.1 hs, caln_r, b126_3 L10, k144x E c, caln_x]; rfl, RS_x E⟩
  · exact ⟨hThr h, I, by rw [ic_f (p := qI J s x) (fun q => hs q.1), b126_0 L10, k142x hs, caln_x]; rfl, RS_x E⟩
theorem aw_rcN {s x : Int} (g : AW I J) : rcN J s x = rcN I s x := by
  unfold rcN
  rw [aw_Eg g, aw_0 g]
theorem s126 {s x : Int} (E : EV n h I I) (S : WSc I) : STEP 126 [.inr (.inl (some 1)), .inl s, .inl x, vU, vU] 239 [.inr (.inl (some 94)), .inl s, .inl x] eA n h I :=
  STEP_mk (c := fun J => ic (qI J s x) 0 1) (v := fun J => rcN J s (fnd J x)) (K := fun J => J) E S eA_i (fun _ => ic_01) (fun J E => k126 E)
    (REF_aq3 (p := fun J => qI J s x) (v := fun J => rcN J s (fnd J x)) (x := fun J => Cl (Eg J s) (fun j => j = fnd J x)) (fun I J g => by rw [aw_qI g, aw_fnd g, aw_rcN g]; exact ⟨rfl, rfl⟩) (fun h2 I2 L V S => r239 L (iv_T V) (WSc_133e S)) (fun I2 V q => S3_Cl V (fr_t V q.2)))
theorem k127 {s x : Int} {v3 v4 : MV} (E : EV n h I J) : ∃ h1 I1, Go 127 0 [.inr (.inl (some 1)), .inl s, .inl x, v3, v4] [] (mI h I) = some (mI h1 I1, oc eA (ic (qI J s x) 0 1) (rcN J s (fnd J x))) ∧ RS h I h1 I1 J := by
  have st := sto_o (s := s)
  have L10 := ly_10 E.1
  have L7 := ly_74 E.1
  have V := ev_V E
  by_cases hs : s = 0 ∨ s = 1
  · by_cases c : 0 ≤ fnd J x
    · have fr := fr_t V c
      obtain ⟨P, hP, e1, e71, e72⟩ := e_mk E hs fr
      have e77 : Go 77 0 [.inr (.inl (some 74)), .inr (.inl (some ((sto s + 7)))), vU, vU, vU, vU] [] (mI h (rowU I 75 (ind (fun j => j = fnd J x)))) = some (mI h (rowU I 75 (ind (Cl (Eg J s) (fun j => j = fnd J x)))), .inl none) :=
        k77 (a := 74) (P := fun j => j = fnd J x) (s := s) (ly_0 E.1) L7 (ly_4 E.1 st) (ev_B E) (iv_R V) (iv_Sh V) (ShC_N (ev_N E hs) (iv_t V).2) (by decide) (by omega) hs (fun j q => by rw [q]; exact fr)
      refine ⟨h, _, by rw [ic_t (p := qI J s x) ⟨hs, c⟩, oc_0, b127_0 L10, k142 E.1 hs, caln_r, b127_3 L10, k144 E c, caln_r, b127_7 L10 L7, e1, e71, caln_v, b127_11 L10 L7, e72, caln_v, b127_15 L10 (ly_8 E.1 st) (ly_3 E.1 st) L7, e77, caln_v, b127_21 L10 L7, k73 (a := 74) L7 rowU_eq, caln_r, b127_24, rc_100 V fr], RS_75 E (SL_1 E (fun j q => Cl_lt (iv_R V).1 (fun j q => by rw [q]; exact fr) j q))⟩
    · exact ⟨hThr h, I, by rw [ic_f (p := qI J s x) (fun q => c q.2), b127_0 L10, k142 E.1 hs, caln_r, b127_3 L10, k144x E c, caln_x]; rfl, RS_x E⟩
  · exact ⟨hThr h, I, by rw [ic_f (p := qI J s x) (fun q => hs q.1), b127_0 L10, k142x hs, caln_x]; rfl, RS_x E⟩
theorem s127 {s x : Int} (E : EV n h I I) (S : WSc I) : STEP 127 [.inr (.inl (some 1)), .inl s, .inl x, vU, vU] 240 [.inr (.inl (some 94)), .inl s, .inl x] eA n h I :=
  STEP_mk (c := fun J => ic (qI J s x) 0 1) (v := fun J => rcN J s (fnd J x)) (K := fun J => J) E S eA_i (fun _ => ic_01) (fun J E => k127 E)
    (REF_aq3 (p := fun J => qI J s x) (v := fun J => rcN J s (fnd J x)) (x := fun J => Cl (Eg J s) (fun j => j = fnd J x)) (fun I J g => by rw [aw_qI g, aw_fnd g, aw_rcN g]; exact ⟨rfl, rfl⟩) (fun h2 I2 L V S => r240 L (iv_T V) (WSc_133e S)) (fun I2 V q => S3_Cl V (fr_t V q.2)))
end QRY
