/-! ===== the calls (6): what is done in one store ===== -/
def RD2 (K : Nat → Int → Int) : Prop := RD K 0 ∧ RD K 1
theorem Cl_cg {E F : Int → Int → Prop} {S P : Int → Prop} (hS : ∀ j, S j → P j) (hc : ∀ a b, P a → E a b → P b) (h : ∀ a b, P a → (E a b ↔ F a b)) (j : Int) : Cl E S j ↔ Cl F S j := by
  constructor
  · intro q
    exact (Cl_ind (P := fun j => P j ∧ Cl F S j) q (fun a sa => ⟨hS a sa, Cl_base sa⟩) (fun a b p e => ⟨hc a b p.1 e, Cl_step p.2 ((h a b p.1).mp e)⟩)).2
  · intro q
    exact (Cl_ind (P := fun j => P j ∧ Cl E S j) q (fun a sa => ⟨hS a sa, Cl_base sa⟩) (fun a b p e => ⟨hc a b p.1 ((h a b p.1).mpr e), Cl_step p.2 ((h a b p.1).mpr e)⟩)).2
section OPS
variable {n : Int} {h h1 : HP} {I I1 J K : Nat → Int → Int}
theorem Eg_o {u : Int} (f : ∀ a, 94 ≤ a ∧ a ≤ 98 → K a = J a) (hT : J 94 0 ≤ 100) (S : SU J K u) : ∀ a b, 0 ≤ a ∧ a < J 94 0 → (Eg J u a b ↔ Eg K u a b) := fun a b ha => by
  unfold Eg
  rw [c_Lk f, c_at f, f 95 (by decide), SU_r S 116 120 rfl (by decide) (120 * u + a) (by omega)]
theorem CC_o {c : Nat} {u : Int} (W : WB J) (f : ∀ a, 94 ≤ a ∧ a ≤ 98 → K a = J a) (hu : u = 0 ∨ u = 1) (S : SU J K u) (C : CC I J c u) : CC I K c u := by
  have hT := W.1
  obtain ⟨c1, c2, c3, c4⟩ := C
  have ech : chN K u = chN J u := cN_c 120 (fun i i0 i1 => by rw [SU_r S 128 120 rfl (by decide) (120 * u + i) (by omega)])
  refine ⟨by rw [ech]; exact c1, fun k k0 k1 => ?_, fun o o0 o1 q => ?_, fun k j k0 k1 j0 j1 => ?_⟩
  · have q := c2 k k0 k1
    rw [f 94 (by decide), SU_r S 128 120 rfl (by decide) (120 * u + I (c + 1) k) (by omega)]
    exact q
  · rw [SU_r S 128 120 rfl (by decide) (120 * u + o) (by omega)] at q
    exact c3 o o0 o1 q
  · have q := (c2 k k0 k1).1
    rw [c4 k j k0 k1 j0 j1]
    exact b01_c (Cl_cg (P := fun a => 0 ≤ a ∧ a < J 94 0) (fun j e => by rw [e]; exact q) (fun a b ha e => by have := Eg_lt W ha e; omega) (Eg_o f hT.2 S) j)
theorem CC_f {c : Nat} {s : Int} (f : ∀ a, (94 ≤ a ∧ a ≤ 98) ∨ a = 116 ∨ a = 128 → K a = J a) (C : CC I J c s) : CC I K c s := by
  have e : Eg K = Eg J := by unfold Eg; rw [c_Lk (fun a ha => f a (by omega)), c_at (fun a ha => f a (by omega)), f 95 (by decide), f 116 (by decide)]
  unfold CC chN
  rw [e, f 94 (by decide), f 128 (by decide)]
  exact C
theorem CS_d {st : Nat} {s : Int} (C : CS h I J st s) (D : DN h1 I1 K (st + 1) s) (fK : ∀ a, (94 ≤ a ∧ a ≤ 98) ∨ (115 ≤ a ∧ a ≤ 119) ∨ (123 ≤ a ∧ a ≤ 131) → K a = J a) (fI : ∀ c, c = st ∨ (st + 7 ≤ c ∧ c ≤ st + 11) ∨ (st + 21 ≤ c ∧ c ≤ st + 31) → I1 c = I c) : CS h1 I1 K st s := by
  refine ⟨DC_n.mpr ⟨D, ?_⟩, ?_, ?_⟩
  · have N := (DC_n.mp C.1).2
    unfold NC at N ⊢
    rw [fK 115 (by decide), fK 116 (by decide), fK 117 (by decide), fK 118 (by decide), fK 119 (by decide), NO_I (I := I) (n := st + 1 + 6) (fun c c0 c1 => fI c (by omega))]
    exact N
  · rw [SC_J (J := J) (fun c hc => fK c (by omega)), SC_I (I := I) (fun c hc => fI c (by omega))]
    exact C.2.1
  · rw [CC_I (I := I) (fun c c0 c1 => fI c (by omega))]
    exact CC_f (fun a ha => fK a (by omega)) C.2.2
theorem CPL_op {s : Int} (E : EV n h I J) (hs : s = 0 ∨ s = 1) (f : ∀ a, (94 ≤ a ∧ a ≤ 100) ∨ a = 132 → K a = J a) (S : SU J K (1 - s)) (Cs : CS h1 I1 K (sto s) s) (kp : DC h I J (sto (1 - s) + 1) (1 - s) → DC h1 I1 J (sto (1 - s) + 1) (1 - s)) (hI : ∀ c, c < 94 → (c < sto s ∨ sto s + 31 < c) → I1 c = I c) : CPL h1 I1 K := by
  have V := ev_V E
  have T := iv_T V
  have C := ev_C E
  have hu : 1 - s = 0 ∨ 1 - s = 1 := by omega
  have fB : ∀ a, 94 ≤ a ∧ a ≤ 98 → K a = J a := fun a ha => f a (by omega)
  have su : sto (1 - s) = 10 ∨ sto (1 - s) = 42 := sto_o
  have ss := sto_o (s := s)
  have dif : sto (1 - s) = 10 ∧ sto s = 42 ∨ sto (1 - s) = 42 ∧ sto s = 10 := by
    obtain rfl | rfl := hs
    · exact Or.inr ⟨rfl, rfl⟩
    · exact Or.inl ⟨rfl, rfl⟩
  have h119 := (iv_G V).2.2.2.2 (1 - s) hu
  have Cu : CS h1 I1 K (sto (1 - s)) (1 - s) := by
    have c0 := ev_s E hu
    refine ⟨DC_o T hu S (c_OB fB) (kp c0.1) (fun o _ _ => T.2.1.2.2 _), ?_, ?_⟩
    · refine SC_o hu h119 S ?_
      rw [SC_I (I := I) (fun c hc => hI c (by omega) (by omega))]
      exact c0.2.1
    · refine CC_o (iv_R V).1 fB hu S ?_
      rw [CC_I (I := I) (fun c c0 c1 => hI c (by omega) (by omega))]
      exact c0.2.2
  refine ⟨?_, ?_, ?_, ?_, ?_⟩
  · rw [BC_J (J := J) (by rw [f 94 (by decide)]) (f 95 (by decide)) (f 96 (by decide)) (f 97 (by decide)) (f 98 (by decide)), BC_I (I := I) (fun c hc => hI c (by omega) (by omega))]
    exact C.1
  · unfold CD
    rw [f 94 (by decide), f 99 (by decide), hI 1 (by decide) (by omega), hI 92 (by decide) (by omega)]
    exact C.2.1
  · obtain rfl | rfl := hs
    · exact ⟨Cs, Cu⟩
    · exact ⟨Cu, Cs⟩
  · unfold CWl
    rw [f 94 (by decide), f 98 (by decide), f 132 (by decide), hI 76 (by decide) (by omega), hI 80 (by decide) (by omega)]
    exact C.2.2.2.1
  · unfold CR SL
    rw [f 94 (by decide), hI 75 (by decide) (by omega), hI 87 (by decide) (by omega), hI 89 (by decide) (by omega), hI 84 (by decide) (by omega), hI 90 (by decide) (by omega), hI 91 (by decide) (by omega), hI 78 (by decide) (by omega), hI 79 (by decide) (by omega)]
    exact C.2.2.2.2
theorem RS_op {s : Int} (E : EV n h I J) (hs : s = 0 ∨ s = 1) (f : ∀ a, (94 ≤ a ∧ a ≤ 100) ∨ a = 132 → K a = J a) (S : SU J K (1 - s)) (Cs : CS h I1 K (sto s) s) (hI : ∀ c, c < sto s ∨ sto s + 31 < c → I1 c = I c) : RS h I h I1 K := by
  have ss := sto_o (s := s)
  have dif : sto (1 - s) = 10 ∧ sto s = 42 ∨ sto (1 - s) = 42 ∧ sto s = 10 := by
    obtain rfl | rfl := hs
    · exact Or.inr ⟨rfl, rfl⟩
    · exact Or.inl ⟨rfl, rfl⟩
  exact ⟨XT_w (XT_r h) (by decide) (by decide), E.2.1, CPL_op E hs f S Cs (fun D => DC_I E.2.1 (by omega) (fun c hc => hI c (by omega)) D) (fun c _ hc => hI c hc), fun a a0 a1 => hI a (by omega)⟩
theorem RD2_of {s : Int} (V : INV n J) (hs : s = 0 ∨ s = 1) (S : SU J K (1 - s)) (R : RD K s) : RD2 K := by
  have hu : 1 - s = 0 ∨ 1 - s = 1 := by omega
  have Ru := RD_o hu ((iv_T V).2.2.2.2.2.1 (1 - s) hu) S (iv_RD V hu)
  obtain rfl | rfl := hs
  · exact ⟨R, Ru⟩
  · exact ⟨Ru, R⟩
theorem RD2_r (V : INV n J) : RD2 J := ⟨iv_RD V (Or.inl rfl), iv_RD V (Or.inr rfl)⟩
theorem INV_x {m : Int} (V : IVX n K) (hm : n + 1 = m) (R : RD2 K) : INV m K := by
  rw [← hm]
  exact INV_s (INV_of V R.1 R.2)
noncomputable def iP (p : Prop) (K J : Nat → Int → Int) : Nat → Int → Int := @ite _ p (Classical.propDecidable p) K J
theorem iP_t {p : Prop} (h : p) : iP p K J = K := if_pos h
theorem iP_f {p : Prop} (h : ¬p) : iP p K J = J := if_neg h
-- sync
theorem k111 {s : Int} (E : EV n h I J) : ∃ h1 I1, Go 111 0 [.inr (.inl (some 1)), .inl s] [] (mI h I) = some (mI h1 I1, oc eA (ic (s = 0 ∨ s = 1) 0 1) (J 104 s)) ∧ RS h I h1 I1 (iP (s = 0 ∨ s = 1) (sY J s) J) ∧ RD2 (iP (s = 0 ∨ s = 1) (sY J s) J) := by
  have st := sto_o (s := s)
  have V := ev_V E
  by_cases hs : s = 0 ∨ s = 1
  · have Cs := ev_s E hs
    obtain ⟨I1, e1, D1, R1, f1⟩ := k49 (h := h) (I := I) (J := J) (d := sto s + 1) (s := s) (v1 := vU) (by omega) (ly_3 E.1 st) (ly_4k E.1 st) E.2.1 (DC_n.mp Cs.1).1 (iv_Q V) (iv_T V) (iv_Z V) (iv_RD V hs) hs
    have S := SU_sY (J := J) (s := s) (u := 1 - s) (iv_t V) (by omega) hs (by omega)
    rw [iP_t hs]
    refine ⟨h, I1, by rw [ic_t hs, oc_0, b111_0 (ly_10 E.1), k142 E.1 hs, caln_r, b111_3 (ly_8 E.1 st) (ly_3 E.1 st), e1, caln_r, b111_5], ?_, RD2_of V hs S R1⟩
    exact RS_op E hs (fun a ha => sY_f (by omega)) S (CS_d Cs D1 (fun a ha => sY_f (by omega)) (fun c hc => f1 c (by omega))) (fun c hc => f1 c (by omega))
  · rw [iP_f hs]
    exact ⟨hThr h, I, by rw [ic_f hs, b111_0 (ly_10 E.1), k142x hs, caln_x]; rfl, RS_x E, RD2_r V⟩
theorem WSc_k {f : Nat → Int → Int} (hf : ∀ a, 133 ≤ a → a ≤ 137 → f a = I a) (S : WSc I) : WSc f := fun a a0 a1 => by
  rw [hf a a0 a1]
  exact S a a0 a1
theorem s111 {s : Int} (E : EV n h I I) (S : WSc I) : STEP 111 [.inr (.inl (some 1)), .inl s] 211 [.inr (.inl (some 94)), .inl s] eA n h I :=
  STEP_mkx (c := fun _ => ic (s = 0 ∨ s = 1) 0 1) (v := fun J => J 104 s) (K := fun J => iP (s = 0 ∨ s = 1) (sY J s) J) (X := RD2) E S eA_i (fun _ => ic_01) (fun J E => k111 E)
    (fun h2 I2 L V S => by
      have g := AW_t (x := 0) (AW_r I2)
      have V2 : INV n (tH I2 0) := by rw [aw_INV g]; exact V
      have e4 : tH I2 0 104 s = I2 104 s := by rw [tH_n (by decide)]
      dsimp only
      rw [r211 L (iv_T V)]
      by_cases hs : s = 0 ∨ s = 1
      · rw [aq_t hs]
        have ky : ∀ a, a < 101 ∨ (104 < a ∧ a < 110) ∨ (110 < a ∧ a < 120) ∨ 122 < a → sY (tH I2 0) s a = tH I2 0 a := fun a ha => sY_f ha
        refine ⟨tH I2 0, _, _, g, rfl, by rw [ky 94 (by decide), tH_49, ic_t hs], fun _ => e4.symm, fun a ha => by rw [ky a (by omega), tH_n (by omega)], by rw [iP_t hs]; exact AW_r _, ?_, WSc_k (fun a a0 a1 => by rw [ky a (by omega), tH_n (by omega)]) S⟩
        rw [iP_t hs]
        exact fun R => INV_x (IVX_sY (IVX_of V2) hs) rfl R
      · rw [aq_f hs]
        refine ⟨tH I2 0, ?_⟩
        rw [iP_f hs]
        exact ⟨_, _, g, rfl, by rw [tH_49, ic_f hs], (fun q => by rw [ic_f hs] at q; cases q), fun a ha => tH_n (by omega), aw_tJ I2 1, fun _ => INV_s V2, WSc_t S⟩)
-- read
noncomputable def rdC (J : Nat → Int → Int) (s x j : Int) : Int := ic ((s = 0 ∨ s = 1) ∧ hP J x j) (ic (Gd J s (fnd J x) ∨ rL J s (fnd J x)) 0 2) 1
noncomputable def rdK (J : Nat → Int → Int) (s x j : Int) : Nat → Int → Int := iP (((s = 0 ∨ s = 1) ∧ hP J x j) ∧ ¬Gd J s (fnd J x) ∧ rL J s (fnd J x)) (wW J s (fnd J x)) J
theorem wW_1 {s o : Int} (E : EV n h I J) (hs : s = 0 ∨ s = 1) (ho : 0 ≤ o ∧ o < J 94 0) : ∃ I1, Go 79 0 [.inr (.inl (some ((sto s)))), .inl o, .inl (J 94 8)] [] (mI h I) = some (mI h I1, .inl none) ∧ RS h I h I1 (wW J s o) ∧ RD2 (wW J s o) := by
  have st := sto_o (s := s)
  have V := ev_V E
  have T := iv_T V
  have hT := iv_t V
  have Cs := ev_s E hs
  obtain ⟨I1, e1, D1, R1, S1, f1⟩ := k79 (h := h) (I := I) (J := J) (st := sto s) (s := s) (o := o) st (ly_8 E.1 st) (ly_3 E.1 st) (ly_4k E.1 st) E.2.1 Cs.1 Cs.2.1 (iv_Q V) T (iv_Z V) (iv_RD V hs) (iv_M V) (iv_P V) hs (by omega) (iv_8 V).1
  have S := SU_wW (J := J) (s := s) (u := 1 - s) (o := o) (IVX_of V) hs (by omega) (by omega) (by omega)
  have wf : ∀ a, a < 101 ∨ (107 < a ∧ a < 110) ∨ (110 < a ∧ a < 120) ∨ (122 < a ∧ a ≠ 126) → wW J s o a = J a := fun a ha => wW_f ha
  refine ⟨I1, e1, RS_op E hs (fun a ha => wf a (by omega)) S ⟨D1, S1, ?_⟩ (fun c hc => f1 c (by omega)), RD2_of V hs S R1⟩
  rw [CC_I (I := I) (fun c c0 c1 => f1 c (by omega))]
  exact CC_f (fun a ha => wf a (by omega)) Cs.2.2
theorem k109 {s x j : Int} {v4 v5 v6 v7 : MV} (E : EV n h I J) : ∃ h1 I1, Go 109 0 [.inr (.inl (some 1)), .inl s, .inl x, .inl j, v4, v5, v6, v7] [] (mI h I) = some (mI h1 I1, oc eC (rdC J s x j) (J 97 (12 * fnd J x + j))) ∧ RS h I h1 I1 (rdK J s x j) ∧ RD2 (rdK J s x j) := by
  have st := sto_o (s := s)
  have su := sto_o (s := 1 - s)
  have V := ev_V E
  have T := iv_T V
  have L10 := ly_10 E.1
  unfold rdC rdK
  by_cases hs : s = 0 ∨ s = 1
  · by_cases c : 0 ≤ fnd J x
    · have fr := fr_t V c
      have f1 := fr_100 V c
      obtain ⟨o, ho⟩ : ∃ o, o = fnd J x := ⟨_, rfl⟩
      by_cases d : 0 ≤ j ∧ j < J 96 (fnd J x)
      · have cd : (s = 0 ∨ s = 1) ∧ hP J x j := ⟨hs, c, d⟩
        have Cs := ev_s E hs
        have hu : 1 - s = 0 ∨ 1 - s = 1 := by omega
        have N := ev_N E hs
        have e11 : I (sto s + 11) o = J 117 (120 * s + o) := (N.2.2 o (by omega) (by omega)).2.2
        have d4 := (ev_C E).2.1.2.2
        have d3 := (ev_C E).2.1.2.1
        rw [← ho] at fr f1 ⊢
        have start : Go 109 0 [.inr (.inl (some 1)), .inl s, .inl x, .inl j, v4, v5, v6, v7] [] (mI h I) = (if b01 (Gd J s o) = 0 then Go 109 20 [.inr (.inl (some 1)), .inl s, .inl x, .inl j, .inr (.inl (some ((sto s)))), .inl o, .inl (J 97 (12 * o + j)), v7] [] (mI h I) else Go 109 18 [.inr (.inl (some 1)), .inl s, .inl x, .inl j, .inr (.inl (some ((sto s)))), .inl o, .inl (J 97 (12 * o + j)), v7] [] (mI h I)) := by
          rw [b109_0 L10, k142 E.1 hs, caln_r, b109_3 L10, k144 E c, caln_r, ← ho, b109_7 L10, k148 E fr (by rw [ho]; exact d), caln_r, b109_12 (ly_8 E.1 st) (ly_3 E.1 st), k38 (ly_3 E.1 st) Cs.1 (iv_M V) T.2.2.2.1 (iv_P V) T.2.1 hs f1, caln_r, b109_17]
        by_cases g : Gd J s o
        · rw [iP_f (fun q => q.2.1 g)]
          refine ⟨h, I, ?_, RS_r E, RD2_r V⟩
          rw [start, b01_t g, if_neg neg1_ne, b109_18, ic_t cd, ic_t (Or.inl g), oc_0]
        · have no : ∀ z7 : Int, ¬rL J s o → (∃ h1 I1, Go 109 48 [.inr (.inl (some 1)), .inl s, .inl x, .inl j, .inr (.inl (some ((sto s)))), .inl o, .inl (J 97 (12 * o + j)), .inl z7] [] (mI h I) = some (mI h1 I1, oc eC (ic ((s = 0 ∨ s = 1) ∧ hP J x j) (ic (Gd J s o ∨ rL J s o) 0 2) 1) (J 97 (12 * o + j))) ∧ RS h I h1 I1 (iP (((s = 0 ∨ s = 1) ∧ hP J x j) ∧ ¬Gd J s o ∧ rL J s o) (wW J s o) J) ∧ RD2 (iP (((s = 0 ∨ s = 1) ∧ hP J x j) ∧ ¬Gd J s o ∧ rL J s o) (wW J s o) J)) := fun z7 r => by
            rw [iP_f (fun q => r q.2.2), b109_48, ic_t cd, ic_f (fun q => q.elim g r)]
            exact ⟨hThr h, I, rfl, RS_x E, RD2_r V⟩
          rw [start, b01_f g, if_pos rfl, b109_20 (ly_8 E.1 st) (ly_3 E.1 st) (ly_4 E.1 st) (by omega), e11]
          by_cases p : J 117 (120 * s + o) = 0
          · rw [if_pos p, b109_34, b109_35, if_pos rfl]
            exact no _ (fun r => r.1 p)
          · rw [if_neg p, b109_27 (ly_8 E.1 st) (ly_3 E.1 st), k37 (ly_3 E.1 st) Cs.1 (iv_M V) T.2.2.2.1 T.2.1 hs f1, caln_r, b109_31]
            by_cases t : Th J s o
            · rw [b01_t t, if_pos neg1_ne, b109_34, b109_35, if_pos rfl]
              exact no _ (fun r => r.2.1 t)
            · rw [b01_f t, if_neg (fun t => t rfl), b109_32, b109_35, if_neg neg1_ne, b109_38 L10, d4]
              by_cases w : J 94 9 = 0
              · rw [b01_t w, if_neg neg1_ne, b109_41 L10, k143 E.1 hs, caln_r, b109_44 (ly_8 E.1 su) (ly_3 E.1 su), k38 (ly_3 E.1 su) (ev_s E hu).1 (iv_M V) T.2.2.2.1 (iv_P V) T.2.1 hu f1, caln_r, b109_47]
                by_cases g2 : Gd J (1 - s) o
                · have rl : rL J s o := ⟨p, t, w, g2⟩
                  obtain ⟨I1, e1, R1, X1⟩ := wW_1 E hs fr
                  rw [iP_t ⟨cd, g, rl⟩, b01_t g2, if_pos neg1_ne, b109_49 L10 (ly_8 E.1 st), d3, e1, caln_v, b109_54, ic_t cd, ic_t (Or.inr rl), oc_0]
                  exact ⟨h, I1, rfl, R1, X1⟩
                · rw [b01_f g2, if_neg (fun t => t rfl)]
                  exact no _ (fun r => g2 r.2.2.2)
              · rw [b01_f w, if_pos rfl]
                exact no _ (fun r => w r.2.2.1)
      · rw [iP_f (fun q => d q.1.2.2), ic_f (fun q => d q.2.2)]
        exact ⟨hThr h, I, by rw [b109_0 L10, k142 E.1 hs, caln_r, b109_3 L10, k144 E c, caln_r, b109_7 L10, k148x E fr d, caln_x]; rfl, RS_x E, RD2_r V⟩
    · rw [iP_f (fun q => c q.1.2.1), ic_f (fun q => c q.2.1)]
      exact ⟨hThr h, I, by rw [b109_0 L10, k142 E.1 hs, caln_r, b109_3 L10, k144x E c, caln_x]; rfl, RS_x E, RD2_r V⟩
  · rw [iP_f (fun q => hs q.1.1), ic_f (fun q => hs q.1)]
    exact ⟨hThr h, I, by rw [b109_0 L10, k142x hs, caln_x]; rfl, RS_x E, RD2_r V⟩
theorem aw_rL {s o : Int} (g : AW I J) : rL J s o = rL I s o := by
  unfold rL
  rw [aw_Th g, aw_Gd g, g.1 117 (by decide) (by decide), g.2 9 (by decide)]
theorem s109 {s x j : Int} (E : EV n h I I) (S : WSc I) : STEP 109 [.inr (.inl (some 1)), .inl s, .inl x, .inl j, vU, vU, vU, vU] 207 [.inr (.inl (some 94)), .inl s, .inl x, .inl j, vU, vU] eC n h I :=
  STEP_mkx (c := fun J => rdC J s x j) (v := fun J => J 97 (12 * fnd J x + j)) (K := fun J => rdK J s x j) (X := RD2) E S eC_i (fun J => ic_3 (by decide) (by decide) (by decide)) (fun J E => k109 E)
    (fun h2 I2 L V S => by
      have g := AW_t (x := 0) (AW_r I2)
      have V2 : INV n (tH I2 0) := by rw [aw_INV g]; exact V
      dsimp only
      unfold rdC rdK
      rw [r207 L (iv_T V)]
      refine ⟨tH I2 0, ?_⟩
      rw [aw_hP g, aw_Gd g, aw_rL g, aw_fnd g, g.1 97 (by decide) (by decide)]
      by_cases c : (s = 0 ∨ s = 1) ∧ hP I2 x j
      · rw [if_pos c, ic_t c]
        unfold rD
        by_cases d : Gd I2 s (fnd I2 x)
        · rw [if_pos d, ic_t (Or.inl d), iP_f (fun q => q.2.1 d)]
          exact ⟨_, _, g, rfl, tH_49, fun _ => rfl, fun a ha => tH_n (by omega), AW_r _, fun _ => INV_s V2, WSc_t S⟩
        · rw [if_neg d]
          by_cases r : rL I2 s (fnd I2 x)
          · have wf : ∀ a, a < 101 ∨ (107 < a ∧ a < 110) ∨ (110 < a ∧ a < 120) ∨ (122 < a ∧ a ≠ 126) → wW (tH I2 0) s (fnd I2 x) a = tH I2 0 a := fun a ha => wW_f ha
            rw [aq_t r, ic_t (Or.inr r), iP_t ⟨c, d, r⟩]
            refine ⟨_, _, g, rfl, by rw [wf 94 (by decide), tH_49], fun _ => rfl, fun a ha => by rw [wf a (by omega), tH_n (by omega)], AW_r _, fun R => INV_x (IVX_wW (IVX_of V2) c.1 ?_) rfl R, WSc_k (fun a a0 a1 => by rw [wf a (by omega), tH_n (by omega)]) S⟩
            rw [tH_94 (by decide)]
            exact fr_t V c.2.1
          · rw [aq_f r, ic_f (fun q => q.elim d r), iP_f (fun q => r q.2.2)]
            exact ⟨_, _, g, rfl, tH_49, (fun q => absurd q (by decide)), fun a ha => tH_n (by omega), aw_tJ I2 2, fun _ => INV_s V2, WSc_t S⟩
      · rw [if_neg c, ic_f c, iP_f (fun q => c q.1)]
        exact ⟨_, _, g, rfl, tH_49, (fun q => absurd q (by decide)), fun a ha => tH_n (by omega), aw_tJ I2 1, fun _ => INV_s V2, WSc_t S⟩)
end OPS
