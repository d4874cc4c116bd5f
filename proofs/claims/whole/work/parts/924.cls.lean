/-! ===== the calls (7): pin, spoil ===== -/
section OPS2
variable {n : Int} {h h1 : HP} {I I1 J K : Nat → Int → Int}
theorem c_WT (f : ∀ a, (94 ≤ a ∧ a ≤ 98) ∨ (101 ≤ a ∧ a ≤ 113) ∨ a = 118 → K a = J a) (T : WT J) : WT K := by
  refine ⟨c_WB (fun a ha => f a (by omega)) T.1, c_WL (fun a ha => f a (by omega)) T.2.1, ?_, c_WK (fun a ha => f a (by omega)) T.2.2.2.1, ?_, ?_, ?_⟩
  · unfold WN; rw [f 118 (by decide)]; exact T.2.2.1
  · rw [f 109 (by decide)]; exact T.2.2.2.2.1
  · rw [f 104 (by decide)]; exact T.2.2.2.2.2.1
  · rw [f 97 (by decide)]; exact T.2.2.2.2.2.2
theorem WL_z {a : Nat} {k v : Int} (ha : a = 103 ∨ a = 107) (hv : v = 0 ∨ v = 1) (W : WL J) : WL (zu2 J a k v) := by
  rw [zu2_row]
  have b : ∀ (g : Int → Int), (∀ j, g j = 0 ∨ g j = 1) → ∀ j, up1 g k v j = 0 ∨ up1 g k v j = 1 := fun g hg j => by
    by_cases c : j = k
    · rw [c, up1_eq]; exact hv
    · rw [up1_ne c]; exact hg j
  obtain rfl | rfl := ha
  · unfold WL
    rw [rowU_eq, rowU_ne (by decide), rowU_ne (by decide)]
    exact ⟨b _ W.1, W.2⟩
  · unfold WL
    rw [rowU_eq, rowU_ne (by decide), rowU_ne (by decide)]
    exact ⟨W.1, b _ W.2.1, W.2.2⟩
theorem WT_z {a : Nat} {k v : Int} (ha : a = 103 ∨ a = 107) (hv : v = 0 ∨ v = 1) (T : WT J) : WT (zu2 J a k v) := by
  have f : ∀ c, c ≠ a → zu2 J a k v c = J c := fun c hc => by rw [zu2_row, rowU_ne hc]
  refine ⟨c_WB (fun c hc => f c (by omega)) T.1, WL_z ha hv T.2.1, ?_, c_WK (fun c hc => f c (by omega)) T.2.2.2.1, ?_, ?_, ?_⟩
  · unfold WN; rw [f 118 (by omega)]; exact T.2.2.1
  · rw [f 109 (by omega)]; exact T.2.2.2.2.1
  · rw [f 104 (by omega)]; exact T.2.2.2.2.2.1
  · rw [f 97 (by omega)]; exact T.2.2.2.2.2.2
theorem IVX_zz {a : Nat} {s k v : Int} (V : IVX n J) (hs : s = 0 ∨ s = 1) (ha : a = 103 ∨ a = 107 ∨ a = 114 ∨ a = 127 ∨ a = 128) (hT : WT (zu2 J a k v)) (S : ∀ u, u = 0 ∨ u = 1 → u ≠ s → SU J (zu2 J a k v) u) (b3 : B2 (zu2 J a k v 127)) (z7 : ZP7 (zu2 J a k v)) : IVX n (zu2 J a k v) := by
  have hT0 := ix_t V
  rw [zu2_row] at hT S b3 z7 ⊢
  have f : ∀ c, c ≠ a → rowU J a (up1 (J a) k v) c = J c := fun c hc => rowU_ne hc
  refine IVX_mk (s := s) V hs (fun c hc => f c (by omega)) S hT (by rw [f 110 (by omega)]; exact ix_110 V) (by rw [f 116 (by omega)]; exact ix_116 V) (by rw [f 117 (by omega)]; exact ix_117 V) b3 (c_WE (fun c hc => f c (by omega)) (ix_E V)) (c_WG (fun c hc => f c (by omega)) (ix_G V)) (c_WQ (fun c hc => f c (by omega)) (ix_Q V)) (c_WO (fun c hc => f c (by omega)) (ix_O V)) (c_PM (fun c hc => f c (by omega)) (ix_M V)) (c_PD (fun c hc => f c (by omega)) (ix_P V)) (c_ZO (fun c hc => f c (by omega)) (ix_Z V)) z7 (by rw [f 126 (by omega)]; exact ix_126 V) (NSs_k (by omega) (by omega) (ix_N V hs)) ?_ (Int.le_refl _)
  have e : eN (rowU J a (up1 (J a) k v)) s = eN J s := by unfold eN; rw [f 129 (by omega)]
  rw [f 119 (by omega), e]
  exact ix_l V hs
-- pin
noncomputable def piK (J : Nat → Int → Int) (s x : Int) : Nat → Int → Int := iP (qI J s x) (pnJ J s (fnd J x)) J
theorem k133 {s x : Int} {v3 v4 : MV} (E : EV n h I J) : ∃ h1 I1, Go 133 0 [.inr (.inl (some 1)), .inl s, .inl x, v3, v4] [] (mI h I) = some (mI h1 I1, oc eA (ic (qI J s x) 0 1) (b01 (J 127 (120 * s + fnd J x) = 0))) ∧ RS h I h1 I1 (piK J s x) := by
  have st := sto_o (s := s)
  have L10 := ly_10 E.1
  have V := ev_V E
  unfold piK
  by_cases hs : s = 0 ∨ s = 1
  · by_cases c : 0 ≤ fnd J x
    · have f1 := fr_100 V c
      have Cs := ev_s E hs
      obtain ⟨o, ho⟩ : ∃ o, o = fnd J x := ⟨_, rfl⟩
      rw [← ho] at f1 ⊢
      have e := (Cs.2.1.1 o f1.1 f1.2).2
      have b := iv_127 V (120 * s + o)
      have l : hK h (sto s + 25) = (1, 100) := LX_k (ly_8 E.1 st) 3 false 25 1 100 rfl
      have bb := b01_or (J 127 (120 * s + o) = 0)
      have q : qI J s x := ⟨hs, c⟩
      have fin : Go 133 19 [.inr (.inl (some 1)), .inl s, .inl x, .inr (.inl (some ((sto s)))), .inl o] [.inl (b01 (J 127 (120 * s + o) = 0)), .inl o, .inr (.inl (some ((sto s + 25))))] (mI h I) = some (mI h (zu2 I (sto s + 25) o (b01 (J 127 (120 * s + o) = 0))), .inl (some (.inl (b01 (J 127 (120 * s + o) = 0))))) := by
        rw [b133_19 l f1 bb (ly_8 E.1 st) f1 (by rw [zu2_row, rowU_eq, up1_eq]; exact bb), zu2_row, rowU_eq, up1_eq]
      refine ⟨h, zu2 I (sto s + 25) o (b01 (J 127 (120 * s + o) = 0)), ?_, ?_⟩
      · rw [b133_0 L10, k142 E.1 hs, caln_r, b133_3 L10, k144 E c, caln_r, ← ho, b133_7 (ly_8 E.1 st) f1, e, ic_t q, oc_0]
        by_cases z : J 127 (120 * s + o) = 0
        · rw [if_neg (fun t => t z), b133_16]
          rw [b01_t z] at fin ⊢
          exact fin
        · rw [if_pos z, b133_18]
          rw [b01_f z] at fin ⊢
          exact fin
      · rw [iP_t q]
        have kf : ∀ a, a ≠ 127 → pnJ J s o a = J a := fun a ha => rowU_ne ha
        have k127 : pnJ J s o 127 = up1 (J 127) (120 * s + o) (b01 (J 127 (120 * s + o) = 0)) := rowU_eq
        have af : ∀ a, a ≠ sto s + 25 → zu2 I (sto s + 25) o (b01 (J 127 (120 * s + o) = 0)) a = I a := fun a ha => by rw [zu2_row, rowU_ne ha]
        refine RS_op E hs (fun a ha => kf a (by omega)) ?_ ⟨?_, ⟨fun y y0 y1 => ?_, fun r r0 r1 => ?_, ?_, fun e e0 e1 => ?_⟩, ?_⟩ (fun a ha => af a (by omega))
        · unfold pnJ
          rw [← zu2_row]
          exact SU_z 120 rfl (s := s) (by omega) (fun j j0 j1 => by omega)
        · exact DC_J (iv_T V) hs (fun a ha => kf a (by omega)) (DC_I E.2.1 (by omega) (fun a ha => af a (by omega)) Cs.1)
        · refine ⟨?_, ?_⟩
          · rw [af _ (by omega), kf 126 (by decide)]; exact (Cs.2.1.1 y y0 y1).1
          · rw [zu2_row, rowU_eq, k127]
            by_cases d : y = o
            · rw [d, up1_eq, up1_eq]
            · rw [up1_ne d, up1_ne (by omega)]; exact (Cs.2.1.1 y y0 y1).2
        · rw [af _ (by omega), af _ (by omega), af _ (by omega), kf 129 (by decide), kf 130 (by decide), kf 131 (by decide)]; exact Cs.2.1.2.1 r r0 r1
        · unfold eN
          rw [af _ (by omega), kf 129 (by decide)]; exact Cs.2.1.2.2.1
        · rw [kf 119 (by decide)] at e1
          rw [af _ (by omega), af _ (by omega), af _ (by omega), kf 123 (by decide), kf 124 (by decide), kf 125 (by decide)]; exact Cs.2.1.2.2.2 e e0 e1
        · rw [CC_I (I := I) (fun a a0 a1 => af a (by omega))]
          exact CC_f (fun a ha => kf a (by omega)) Cs.2.2
    · exact ⟨hThr h, I, by rw [ic_f (p := qI J s x) (fun q => c q.2), b133_0 L10, k142 E.1 hs, caln_r, b133_3 L10, k144x E c, caln_x]; rfl, by rw [iP_f (fun q => c q.2)]; exact RS_x E⟩
  · exact ⟨hThr h, I, by rw [ic_f (p := qI J s x) (fun q => hs q.1), b133_0 L10, k142x hs, caln_x]; rfl, by rw [iP_f (fun q => hs q.1)]; exact RS_x E⟩
theorem IVX_pn {s o : Int} (V : IVX n J) (hs : s = 0 ∨ s = 1) (ho : 0 ≤ o ∧ o < J 94 0) : IVX n (pnJ J s o) := by
  have hT := ix_t V
  have e : pnJ J s o = zu2 J 127 (120 * s + o) (b01 (J 127 (120 * s + o) = 0)) := by rw [zu2_row]; rfl
  rw [e]
  refine IVX_zz V hs (by decide) (c_WT (fun a ha => by rw [zu2_row, rowU_ne (by omega)]) (ix_T V)) (fun u hu hn => SU_z 120 rfl (s := s) (by omega) (fun j j0 j1 => by omega)) (fun j => ?_) (fun u i hu i0 i1 => ?_)
  · rw [zu2_row, rowU_eq]
    by_cases c : j = 120 * s + o
    · rw [c, up1_eq]; exact b01_or _
    · rw [up1_ne c]; exact ix_127 V j
  · rw [zu2_row, rowU_ne (by decide)] at i0
    rw [zu2_row, rowU_eq, up1_ne (by omega)]
    exact ix_Z7 V u i hu i0 i1
theorem RD2_c (V : INV n J) (f : ∀ a, 101 ≤ a ∧ a ≤ 122 → K a = J a) : RD2 K := ⟨RD_c (J := J) (fun a ha => f a (by omega)) (iv_RD V (Or.inl rfl)), RD_c (J := J) (fun a ha => f a (by omega)) (iv_RD V (Or.inr rfl))⟩
theorem s133 {s x : Int} (E : EV n h I I) (S : WSc I) : STEP 133 [.inr (.inl (some 1)), .inl s, .inl x, vU, vU] 255 [.inr (.inl (some 94)), .inl s, .inl x, vU] eA n h I :=
  STEP_mk1 (c := fun J => ic (qI J s x) 0 1) (v := fun J => b01 (J 127 (120 * s + fnd J x) = 0)) (K := fun J => piK J s x) E S eA_i (fun _ => ic_01) (fun J _ E => k133 E)
    (fun h2 I2 _ L V S => by
      have g := AW_t (x := 0) (AW_r I2)
      have V2 : INV n (tH I2 0) := by rw [aw_INV g]; exact V
      unfold piK
      rw [r255 L (WB_t (iv_R V).1)]
      refine ⟨tH I2 0, ?_⟩
      rw [aw_qI g, aw_fnd g, g.1 127 (by decide) (by decide)]
      by_cases c : qI I2 s x
      · rw [aq_t c, ic_t c, iP_t c]
        have kf : ∀ a, a ≠ 127 → pnJ (tH I2 0) s (fnd I2 x) a = tH I2 0 a := fun a ha => rowU_ne ha
        have fr := fr_t V c.2
        refine ⟨_, _, g, rfl, by rw [kf 94 (by decide), tH_49], fun _ => rfl, fun a ha => by rw [kf a (by omega), tH_n (by omega)], AW_r _, fun _ => INV_x (IVX_pn (IVX_of V2) c.1 (by rw [tH_94 (by decide)]; exact fr)) rfl (RD2_c V2 (fun a ha => kf a (by omega))), WSc_k (fun a a0 a1 => by rw [kf a (by omega), tH_n (by omega)]) S⟩
      · rw [aq_f c, ic_f c, iP_f c]
        exact ⟨_, _, g, rfl, tH_49, (fun q => absurd q (by decide)), fun a ha => tH_n (by omega), aw_tJ I2 1, fun _ => INV_s V2, WSc_t S⟩)
-- spoil
theorem DC_kp {d c m : Nat} {u : Int} (O : OWN h) (X : XT h h1 c m) (hd : d = 11 ∨ d = 43) (r : ∀ k, hR h1 (d + 3) k = hR h (d + 3) k) (r2 : ∀ k, hR h1 (d + 19) k = hR h (d + 19) k) (H : ∀ c, d ≤ c → c ≤ d + 19 → I1 c = I c) (Hp : ∀ p a, hR h (d + 3) p = some a → ∀ c, a ≤ c → c ≤ a + 5 → I1 c = I c) (Hn : ∀ i a, hR h (d + 19) i = some a → ∀ c, a ≤ c → c ≤ a + 4 → I1 c = I c) (D : DC h I J d u) : DC h1 I1 J d u := by
  have q := DC_n.mp D
  refine DC_n.mpr ⟨DNk_h O X hd r (fun i _ _ => r2 i) (fun c hc => H c (by omega) (by omega)) Hp (fun i a _ _ ha => Hn i a ha) q.1, ?_⟩
  unfold NC
  rw [NO_I (I := I) (n := d + 6) (fun c c0 c1 => H c (by omega) (by omega))]
  exact q.2
noncomputable def slC (J : Nat → Int → Int) (s x : Int) : Int := ic (qI J s x) (ic (GL J s (fnd J x) ∨ 0 ≤ sq J s (fnd J x)) 0 2) 1
noncomputable def slV (J : Nat → Int → Int) (s x : Int) : Int := ic (GL J s (fnd J x)) (-1) (sq J s (fnd J x))
noncomputable def slK (J : Nat → Int → Int) (s x : Int) : Nat → Int → Int := iP (qI J s x) (iP (GL J s (fnd J x)) (spL J s (fnd J x)) (iP (0 ≤ sq J s (fnd J x)) (spE J s (fnd J x)) J)) J
theorem sq_b {s o : Int} (V : INV n J) (hs : s = 0 ∨ s = 1) (h0 : 0 ≤ sq J s o) : sq J s o < J 108 s ∧ Spk J (20 * s + sq J s o) o := by
  have hm := (iv_T V).2.2.2.1.1 s hs
  have q := lastP_lt (P := fun i => Spk J (20 * s + i) o) (J 108 s).toNat
  have e : sq J s o = lastP (fun i => Spk J (20 * s + i) o) (J 108 s).toNat := rfl
  rw [← e] at q
  exact ⟨by omega, q.2.2 h0⟩
theorem SU_spL {s u o : Int} (hs : s = 0 ∨ s = 1) (hu : u = 0 ∨ u = 1) (hn : u ≠ s) (ho : 0 ≤ o ∧ o < 120) (h1 : 1 ≤ J 101 (120 * s + o) ∧ J 101 (120 * s + o) ≤ 31) : SU J (spL J s o) u := by
  unfold spL
  split
  · exact SU_z 120 rfl (s := s) (by omega) (fun j j0 j1 => by omega)
  · exact SU_z 30 rfl (s := s) (by omega) (fun j j0 j1 => by omega)
theorem IVX_spL {s o : Int} (V : IVX n J) (hs : s = 0 ∨ s = 1) (ho : 0 ≤ o ∧ o < 120) (h1 : 1 ≤ J 101 (120 * s + o) ∧ J 101 (120 * s + o) ≤ 31) : IVX n (spL J s o) := by
  have S := fun u hu hn => SU_spL (J := J) (s := s) (u := u) hs hu hn ho h1
  unfold spL at S ⊢
  by_cases c : J 101 (120 * s + o) = 1
  · rw [if_pos c] at S ⊢
    exact IVX_zz V hs (by decide) (WT_z (by decide) (Or.inr rfl) (ix_T V)) S (by rw [zu2_row, rowU_ne (by decide)]; exact ix_127 V) (c_Z7 (fun a ha => by rw [zu2_row, rowU_ne (by omega)]) (ix_Z7 V))
  · rw [if_neg c] at S ⊢
    exact IVX_zz V hs (by decide) (WT_z (by decide) (Or.inr rfl) (ix_T V)) S (by rw [zu2_row, rowU_ne (by decide)]; exact ix_127 V) (c_Z7 (fun a ha => by rw [zu2_row, rowU_ne (by omega)]) (ix_Z7 V))
theorem spL_f {s o : Int} {a : Nat} (h : a ≠ 103 ∧ a ≠ 107) : spL J s o a = J a := by
  unfold spL
  split <;> rw [zu2_row, rowU_ne (by omega)]
theorem spE_f {s o : Int} {a : Nat} (h : a ≠ 114) : spE J s o a = J a := by
  unfold spE
  rw [zu2_row, rowU_ne h]
theorem sq_r {s o : Int} (V : INV n J) (hs : s = 0 ∨ s = 1) (h0 : 0 ≤ sq J s o) : 2400 * s ≤ 120 * (20 * s + sq J s o) + eo J (20 * s + sq J s o) o ∧ 120 * (20 * s + sq J s o) + eo J (20 * s + sq J s o) o < 2400 * s + 2400 := by
  obtain ⟨q1, q2⟩ := sq_b V hs h0
  have hm := (iv_T V).2.2.2.1.1 s hs
  have w := ((iv_T V).2.2.2.1.2 (20 * s + sq J s o) (by omega) (by omega)).1
  have e := eo_b (I := J) (p := 20 * s + sq J s o) (o := o) w.1
  have := q2.2.1
  omega
theorem SU_spE {s u o : Int} (V : INV n J) (hs : s = 0 ∨ s = 1) (hu : u = 0 ∨ u = 1) (hn : u ≠ s) (h0 : 0 ≤ sq J s o) : SU J (spE J s o) u := by
  have r := sq_r V hs h0
  exact SU_z 2400 rfl (s := s) r (fun j j0 j1 => by omega)
theorem k138 {s x : Int} {v3 v4 v5 : MV} (E : EV n h I J) : ∃ h1 I1, Go 138 0 [.inr (.inl (some 1)), .inl s, .inl x, v3, v4, v5] [] (mI h I) = some (mI h1 I1, oc eC (slC J s x) (slV J s x)) ∧ RS h I h1 I1 (slK J s x) ∧ RD2 (slK J s x) := by
  have st := sto_o (s := s)
  have L10 := ly_10 E.1
  have V := ev_V E
  have T := iv_T V
  unfold slK slC slV
  by_cases hs : s = 0 ∨ s = 1
  · by_cases c : 0 ≤ fnd J x
    · have f1 := fr_100 V c
      have Cs := ev_s E hs
      have q : qI J s x := ⟨hs, c⟩
      obtain ⟨o, ho⟩ : ∃ o, o = fnd J x := ⟨_, rfl⟩
      rw [← ho] at f1 ⊢
      have e1 : I (sto s + 1 + 1) o = lcI J s o := (Cs.1.1.1 o f1.1 f1.2).1
      have l1 := lc_1 (J := J) (s := s) (o := o) T.2.1
      have L3 := ly_3 E.1 st
      have hw := T.2.1.2.2 (120 * s + o)
      rw [b138_0 L10, k142 E.1 hs, caln_r, b138_3 (ly_8 E.1 st) L10, k144 E c, caln_r, ← ho, b138_8 L3 f1, e1, ic_t q, iP_t q]
      by_cases g : GL J s o
      · obtain ⟨I1, e2, D1, R1, fr1⟩ := k46 (h := h) (I := I) (J := J) (d := sto s + 1) (s := s) (o := o) (v2 := vU) (by omega) L3 E.2.1 (DC_n.mp Cs.1).1 T (iv_RD V hs) hs f1 (by have := g.1; omega) (iv_Q V)
        have S := SU_spL (J := J) (s := s) (u := 1 - s) (o := o) hs (by omega) (by omega) (by omega) (by have := g.1; omega)
        rw [iP_t g]
        refine ⟨h, I1, ?_, ?_, RD2_of V hs S R1⟩
        · rw [if_neg (fun t => t (l1.mpr g)), b138_15 L3, e2, caln_v, b138_18, ic_t (Or.inl g), ic_t g, oc_0]
        · exact RS_op E hs (fun a ha => spL_f (by omega)) S (CS_d Cs D1 (fun a ha => spL_f (by omega)) (fun a ha => fr1 a (by omega))) (fun a ha => fr1 a (by omega))
      · rw [iP_f g, if_pos (fun t => g (l1.mp t)), b138_20 L3, k47 L3 Cs.1 (iv_M V) T.2.2.2.1 hs f1, caln_r, b138_23]
        have qb := (lastP_lt (P := fun i => Spk J (20 * s + i) o) (J 108 s).toNat).1
        have qe : sq J s o = lastP (fun i => Spk J (20 * s + i) o) (J 108 s).toNat := rfl
        rw [← qe] at qb
        by_cases d : 0 ≤ sq J s o
        · obtain ⟨I1, a, e2, D1, ha, a140, fr1⟩ := k48 (h := h) (I := I) (J := J) (d := sto s + 1) (s := s) (o := o) (v3 := vU) (by omega) L3 E.2.1 Cs.1 (iv_M V) T hs f1 d
          have S := SU_spE (J := J) (s := s) (u := 1 - s) (o := o) V hs (by omega) (by omega) d
          have O := E.2.1
          have oa : OAr (sto s + 1 + 3) := OAr_3 (by omega)
          have az : owz (sto s + 1 + 3) = 5 := if_pos (by omega)
          have su := sto_o (s := 1 - s)
          have dif : sto (1 - s) = 10 ∧ sto s = 42 ∨ sto (1 - s) = 42 ∧ sto s = 10 := by
            obtain rfl | rfl := hs
            · exact Or.inr ⟨rfl, rfl⟩
            · exact Or.inl ⟨rfl, rfl⟩
          rw [iP_t d]
          refine ⟨h, I1, ?_, ⟨XT_w (XT_r h) (by decide) (by decide), O, ?_, fun c c0 c1 => fr1 c (by omega)⟩, RD2_of V hs S (RD_c (J := J) (fun a ha => spE_f (by omega)) (iv_RD V hs))⟩
          · rw [if_pos (by omega), b138_28 L3, e2, caln_v, b138_32, ic_t (Or.inr d), ic_f g, oc_0]
          · refine CPL_op E hs (fun a ha => spE_f (by omega)) S ⟨D1, ?_, ?_⟩ (fun D => DC_kp O (XT_r h) (by omega) (fun _ => rfl) (fun _ => rfl) (fun c c0 c1 => fr1 c (by omega)) (fun p b hb c c0 c1 => fr1 c ?_) (fun i b hb c c0 c1 => fr1 c ?_) D) (fun c _ hc => fr1 c (by omega))
            · rw [SC_J (J := J) (fun a ha => spE_f (by omega)), SC_I (I := I) (fun c hc => fr1 c (by omega))]
              exact Cs.2.1
            · rw [CC_I (I := I) (fun c c0 c1 => fr1 c (by omega))]
              exact CC_f (fun a ha => spE_f (by omega)) Cs.2.2
            · have ob : OAr (sto (1 - s) + 1 + 3) := OAr_3 (by omega)
              have bz : owz (sto (1 - s) + 1 + 3) = 5 := if_pos (by omega)
              have := O.2.2 _ _ _ _ _ _ oa ob ha hb
              rw [az, bz] at this
              omega
            · have ob : OAr (sto (1 - s) + 1 + 19) := OAr_19 (by omega)
              have bz : owz (sto (1 - s) + 1 + 19) = 4 := if_neg (by omega)
              have := O.2.2 _ _ _ _ _ _ oa ob ha hb
              rw [az, bz] at this
              omega
        · rw [iP_f d]
          exact ⟨hThr h, I, by rw [if_neg (by omega), b138_27, ic_f (fun t => t.elim g d)]; rfl, RS_x E, RD2_r V⟩
    · rw [iP_f (fun q => c q.2), ic_f (fun q => c q.2)]
      exact ⟨hThr h, I, by rw [b138_0 L10, k142 E.1 hs, caln_r, b138_3 (ly_8 E.1 st) L10, k144x E c, caln_x]; rfl, RS_x E, RD2_r V⟩
  · rw [iP_f (fun q => hs q.1), ic_f (fun q => hs q.1)]
    exact ⟨hThr h, I, by rw [b138_0 L10, k142x hs, caln_x]; rfl, RS_x E, RD2_r V⟩
theorem s138 {s x : Int} (E : EV n h I I) (S : WSc I) : STEP 138 [.inr (.inl (some 1)), .inl s, .inl x, vU, vU, vU] 268 [.inr (.inl (some 94)), .inl s, .inl x, vU, vU, vU, vU, vU, vU] eC n h I :=
  STEP_mkx (c := fun J => slC J s x) (v := fun J => slV J s x) (K := fun J => slK J s x) (X := RD2) E S eC_i (fun J => ic_3 (by decide) (by decide) (by decide)) (fun J E => k138 E)
    (fun h2 I2 L V S => by
      unfold slC slV slK
      rw [r268 L (iv_T V)]
      refine ⟨I2, ?_⟩
      dsimp only
      by_cases c : qI I2 s x
      · have fr := fr_100 V c.2
        have hw := (iv_T V).2.1.2.2 (120 * s + fnd I2 x)
        rw [if_pos c, ic_t c, iP_t c]
        by_cases d : GL I2 s (fnd I2 x)
        · rw [if_pos d, ic_t (Or.inl d), ic_t d, iP_t d]
          exact ⟨_, _, AW_r _, rfl, tH_49, fun _ => rfl, fun a ha => by rw [tH_n (by omega), spL_f (by omega)], AW_t (AW_r _), fun R => INV_x (IVX_spL (IVX_of V) c.1 (by omega) (by have := d.1; omega)) rfl R, WSc_t (WSc_k (fun a a0 a1 => spL_f (by omega)) S)⟩
        · rw [if_neg d, ic_f d, iP_f d]
          by_cases e : 0 ≤ sq I2 s (fnd I2 x)
          · rw [aq_t e, ic_t (Or.inr e), iP_t e]
            refine ⟨_, _, AW_r _, rfl, tH_49, fun _ => rfl, fun a ha => by rw [tH_n (by omega), spE_f (by omega)], AW_t (AW_r _), fun R => INV_x ?_ rfl R, WSc_t (WSc_k (fun a a0 a1 => spE_f (by omega)) S)⟩
            have V1 := IVX_of V
            exact IVX_zz V1 c.1 (by decide) (c_WT (fun a ha => by rw [zu2_row, rowU_ne (by omega)]) (iv_T V)) (fun u hu hn => SU_spE V c.1 hu hn e) (by rw [zu2_row, rowU_ne (by decide)]; exact ix_127 V1) (c_Z7 (fun a ha => by rw [zu2_row, rowU_ne (by omega)]) (ix_Z7 V1))
          · rw [aq_f e, ic_f (fun q => q.elim d e), iP_f e]
            exact ⟨_, _, AW_r _, rfl, tH_49, (fun q => absurd q (by decide)), fun a ha => tH_n (by omega), AW_t (AW_r _), fun _ => INV_s V, WSc_t S⟩
      · rw [if_neg c, ic_f c, iP_f c]
        exact ⟨_, _, AW_r _, rfl, tH_49, (fun q => absurd q (by decide)), fun a ha => tH_n (by omega), AW_t (AW_r _), fun _ => INV_s V, WSc_t S⟩)
end OPS2
