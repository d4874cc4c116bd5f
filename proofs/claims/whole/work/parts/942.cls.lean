/-! ===== the calls (25): telling ===== -/
section OPS19
variable {n m : Int} {h h1 : HP} {I I1 J K M D X Y : Nat → Int → Int}
/-- memories that differ in the draft -/
def dV (J D : Nat → Int → Int) : Prop := (∀ a, a ≠ 94 → a ≠ 99 → a ≠ 100 → D a = J a) ∧ ∀ k, k ≠ 5 → D 94 k = J 94 k
theorem dV_r : dV J J := ⟨fun _ _ _ _ => rfl, fun _ _ => rfl⟩
theorem INV_dV (d : dV J D) (W : WD D) (V : INV n J) : INV n D := by
  have g := (iv_G V).2.2.2.1
  refine INV_g V (fun a ha => d.1 a (by omega) (by omega) (by omega)) (d.2 0 (by decide)) (Int.le_refl _) W ?_ ?_ ?_
  · rw [d.2 8 (by decide)]
    exact ⟨(iv_8 V).1, (iv_8 V).2, g.2⟩
  · rw [d.2 9 (by decide)]; exact iv_9 V
  · rw [d.2 41 (by decide)]; exact iv_41 V
theorem CC_g {c : Nat} {s : Int} (f : ∀ a, (95 ≤ a ∧ a ≤ 98) ∨ a = 116 ∨ a = 128 → K a = J a) (f0 : K 94 0 = J 94 0) : CC I K c s = CC I J c s := by
  have eat : atR K = atR J := by
    funext o j
    unfold atR fnd
    rw [f0, f 97 (by decide), f 98 (by decide)]
  have eLk : Lk K = Lk J := by unfold Lk; rw [f 95 (by decide), f 96 (by decide)]
  have eEg : Eg K = Eg J := by unfold Eg; rw [eLk, eat, f 95 (by decide), f 116 (by decide)]
  unfold CC chN
  rw [eEg, f0, f 128 (by decide)]
/-- with a new object; the draft stays -/
noncomputable def nD (J D : Nat → Int → Int) (c : Int) : Nat → Int → Int := rowU (rowU (rowU (rowU (rowU J 95 (nB D c 95)) 96 (nB D c 96)) 97 (nB D c 97)) 98 (nB D c 98)) 94 (up1 (J 94) 0 (J 94 0 + 1))
theorem nD_f {c : Int} {a : Nat} (h : a < 94 ∨ 98 < a) : nD J D c a = J a := by
  unfold nD
  rw [rowU_ne (by omega), rowU_ne (by omega), rowU_ne (by omega), rowU_ne (by omega), rowU_ne (by omega)]
theorem nD_b {c : Int} {a : Nat} (h : 95 ≤ a ∧ a ≤ 98) : nD J D c a = nB D c a := by
  have q : a = 95 ∨ a = 96 ∨ a = 97 ∨ a = 98 := by omega
  unfold nD
  obtain rfl | rfl | rfl | rfl := q
  · rw [rowU_ne (by decide), rowU_ne (by decide), rowU_ne (by decide), rowU_ne (by decide), rowU_eq]
  · rw [rowU_ne (by decide), rowU_ne (by decide), rowU_ne (by decide), rowU_eq]
  · rw [rowU_ne (by decide), rowU_ne (by decide), rowU_eq]
  · rw [rowU_ne (by decide), rowU_eq]
theorem nD_4 {c : Int} : nD J D c 94 = up1 (J 94) 0 (J 94 0 + 1) := rowU_eq
theorem INV_nD {c : Int} (d : dV J D) (W : WD D) (V : INV n J) (N : NB D c) (B : VB D c) (hs : sm D c < 0) (ht : J 94 0 < 100) : INV n (nD J D c) := by
  have e0 : D 94 0 = J 94 0 := d.2 0 (by decide)
  have V2 := INV_nB (INV_dV d W V) N B hs (by rw [e0]; exact ht)
  have g := (iv_G V).2.2.2.1
  have wd := iv_D V
  refine INV_g V2 (fun a ha => ?_) (by rw [nD_4, up1_eq, nB_940, e0]) (Int.le_refl _) ⟨?_, ?_⟩ ?_ ?_ ?_
  · by_cases c : 95 ≤ a ∧ a ≤ 98
    · exact nD_b c
    · rw [nD_f (by omega), nB_f (by omega), d.1 a (by omega) (by omega) (by omega)]
  · rw [nD_4, up1_ne (by decide)]; exact wd.1
  · rw [nD_4, up1_ne (by decide), nD_f (by decide)]; exact wd.2
  · rw [nD_4, up1_ne (by decide)]
    exact ⟨(iv_8 V).1, (iv_8 V).2, g.2⟩
  · rw [nD_4, up1_ne (by decide)]; exact iv_9 V
  · rw [nD_4, up1_ne (by decide)]; exact iv_41 V
theorem tell_n {b : Nat} {c : Int} {v4 v5 : MV} (E : EV n h I J) (d : dV J D) (W : WD D) (N : NB D c) (B : VB D c) (hs : sm D c < 0) (ht : J 94 0 < 100) (hb : hK h b = (0, 12)) (hb9 : 9 < b) (hE : BE I D b) :
    ∃ I1, Go 13 0 [.inr (.inl (some 2)), .inl c, .inr (.inl (some b)), .inl (D 94 5), v4, v5] [] (mI h I) = some (mI h I1, .inl (some (.inl (J 94 0)))) ∧ EV n h I1 (nD J D c) ∧ ∀ a, a < 2 ∨ 9 < a → I1 a = I a := by
  have V := ev_V E
  have T := iv_T V
  have hT := iv_t V
  have C := ev_C E
  have e0 : D 94 0 = J 94 0 := d.2 0 (by decide)
  have VD := INV_dV d W V
  have RD_ := iv_R VD
  have BD : BC I D := by
    rw [BC_J (J := J) e0 (d.1 95 (by decide) (by decide) (by decide)) (d.1 96 (by decide) (by decide) (by decide)) (d.1 97 (by decide) (by decide) (by decide)) (d.1 98 (by decide) (by decide) (by decide))]
    exact C.1
  obtain ⟨I1, e1, f1, _, B1⟩ := k13 (h := h) (I := I) (J := D) (b := b) (c := c) (n := D 94 5) (v4 := v4) (v5 := v5) (ly_0 E.1) BD RD_ N (by rw [e0]; exact ht) hb hb9 rfl hE
  rw [e0] at e1
  refine ⟨I1, e1, ⟨E.1, E.2.1, ⟨?_, ?_, ?_, ?_, ?_⟩, INV_nD d W V N B hs ht⟩, f1⟩
  · rw [BC_J (J := nB D c) (by rw [nD_4, up1_eq, nB_940, e0]) (nD_b (by decide)) (nD_b (by decide)) (nD_b (by decide)) (nD_b (by decide))]
    exact B1
  · have w := C.2.1
    unfold CD at w ⊢
    rw [nD_4, up1_ne (by decide), up1_ne (by decide), up1_ne (by decide), nD_f (by decide), f1 1 (by decide), f1 92 (by decide)]
    exact w
  · have cs : ∀ u, u = 0 ∨ u = 1 → CS h I1 (nD J D c) (sto u) u := fun u hu => by
      have su := sto_o (s := u)
      have Cs := CPL_s C hu
      refine ⟨DC_o T hu (fun a a0 a1 j _ _ => by rw [nD_f (by omega)]) (fun o o0 o1 => ?_) (DC_I E.2.1 (by omega) (fun a ha => f1 a (by omega)) Cs.1) (fun o _ _ => T.2.1.2.2 _), ?_, ?_⟩
      · rw [nD_b (by decide), nD_b (by decide)]
        have od : o < D 94 0 := by rw [e0]; exact o1
        refine ⟨by rw [(nB_o od).2.1, d.1 96 (by decide) (by decide) (by decide)], fun j j0 j1 => by rw [b97_nB od (by omega), d.1 97 (by decide) (by decide) (by decide)]⟩
      · rw [SC_J (J := J) (fun a ha => nD_f (by omega)), SC_I (I := I) (fun a ha => f1 a (by omega))]
        exact Cs.2.1
      · have c1 : CC I1 J (sto u + 21) u := by
          rw [CC_I (I := I) (fun a a0 a1 => f1 a (by omega))]
          exact Cs.2.2
        rw [← CC_g (K := D) (J := J) (fun a ha => d.1 a (by omega) (by omega) (by omega)) e0] at c1
        have c2 := CC_nB (c := c) RD_ N (by rw [e0]; exact ht) c1
        rw [CC_g (K := nD J D c) (J := nB D c) (fun a ha => ?_) (by rw [nD_4, up1_eq, nB_940, e0])]
        · exact c2
        · by_cases q : 95 ≤ a ∧ a ≤ 98
          · exact nD_b q
          · rw [nD_f (by omega), nB_f (by omega), d.1 a (by omega) (by omega) (by omega)]
    exact ⟨cs 0 (Or.inl rfl), cs 1 (Or.inr rfl)⟩
  · have w := C.2.2.2.1
    unfold CWl at w ⊢
    rw [f1 76 (by decide), f1 80 (by decide), nD_4, up1_ne (by decide), up1_eq, nD_f (a := 132) (by decide), nD_b (a := 98) (by decide)]
    refine ⟨w.1, fun k k0 k1 => ?_⟩
    have q := w.2 k k0 k1
    rw [(nB_o (by rw [e0]; exact q.1.2)).2.2, d.1 98 (by decide) (by decide) (by decide)]
    exact ⟨by omega, q.2⟩
  · have w := C.2.2.2.2
    have sl : ∀ P, SL J P → SL (nD J D c) P := fun P q j p => by
      have := q j p
      rw [nD_4, up1_eq]
      omega
    unfold CR at w ⊢
    rw [f1 75 (by decide), f1 87 (by decide), f1 89 (by decide), f1 84 (by decide), f1 90 (by decide), f1 91 (by decide), f1 78 (by decide), f1 79 (by decide)]
    obtain ⟨w1, ⟨⟨P, p1, p2⟩, ⟨Q, q1, q2⟩, R, r1, r2⟩, w3⟩ := w
    exact ⟨w1, ⟨⟨P, sl P p1, p2⟩, ⟨Q, sl Q q1, q2⟩, R, sl R r1, r2⟩, w3⟩
noncomputable def eTo (J D : Nat → Int → Int) (c : Int) : Int := if 0 ≤ sm D c then sm D c else J 94 0
noncomputable def eTx (J D : Nat → Int → Int) (c : Int) : Nat → Int → Int := if 0 ≤ sm D c then J else nD J D c
noncomputable def eTt (J D : Nat → Int → Int) (s c : Int) : Nat → Int → Int := wW (eTx J D c) s (eTo J D c)
def eFull (J D : Nat → Int → Int) (c : Int) : Prop := sm D c < 0 ∧ J 94 0 = 100
theorem sm_b {c : Int} (hT : 0 ≤ D 94 0) : -1 ≤ sm D c ∧ sm D c < D 94 0 := by
  have hlt := lastP_lt (P := sB D c) (D 94 0).toNat
  refine ⟨hlt.1, ?_⟩
  have := hlt.2.1
  rw [Int.toNat_of_nonneg hT] at this
  exact this
theorem k153 {b : Nat} {s c : Int} {v5 : MV} (E : EV n h I J) (hs : s = 0 ∨ s = 1) (d : dV J D) (W : WD D) (N : NB D c) (B : VB D c) (hb : hK h b = (0, 12)) (hb9 : 9 < b) (hE : BE I D b) :
    (eFull J D c → Go 153 0 [.inr (.inl (some 1)), .inr (.inl (some ((sto s)))), .inl c, .inr (.inl (some b)), .inl (D 94 5), v5] [] (mI h I) = some (mI (hThr h) I, .inr 2)) ∧
    (¬eFull J D c → ∃ I1, Go 153 0 [.inr (.inl (some 1)), .inr (.inl (some ((sto s)))), .inl c, .inr (.inl (some b)), .inl (D 94 5), v5] [] (mI h I) = some (mI h I1, .inl (some (.inl (eTx J D c 98 (eTo J D c))))) ∧ EV n h I1 (eTt J D s c) ∧ ∀ a, a = 1 ∨ 73 < a → a ≤ 139 → I1 a = I a) := by
  have st := sto_o (s := s)
  have L10 := ly_10 E.1
  have V := ev_V E
  have hT := iv_t V
  have C := ev_C E
  have e0 : D 94 0 = J 94 0 := d.2 0 (by decide)
  have VD := INV_dV d W V
  have BD : BC I D := by
    rw [BC_J (J := J) e0 (d.1 95 (by decide) (by decide) (by decide)) (d.1 96 (by decide) (by decide) (by decide)) (d.1 97 (by decide) (by decide) (by decide)) (d.1 98 (by decide) (by decide) (by decide))]
    exact C.1
  have sb := sm_b (D := D) (c := c) (by rw [e0]; exact hT.1)
  rw [e0] at sb
  have e11 := k11 (h := h) (I := I) (J := D) (b := b) (c := c) (n := D 94 5) (v4 := vU) (ly_0 E.1) BD (iv_R VD) (iv_U VD) hb rfl hE
  -- the rest, with the object there
  have rest : ∀ (A X : Nat → Int → Int) (o : Int) , EV n h A X → 0 ≤ o ∧ o < X 94 0 → (∀ a, a = 1 ∨ 73 < a → a ≤ 139 → A a = I a) → ∃ I1, Go 153 26 [.inr (.inl (some 1)), .inr (.inl (some ((sto s)))), .inl c, .inr (.inl (some b)), .inl (D 94 5), .inl o] [] (mI h A) = some (mI h I1, .inl (some (.inl (X 98 o)))) ∧ EV n h I1 (wW X s o) ∧ ∀ a, a = 1 ∨ 73 < a → a ≤ 139 → I1 a = I a := fun A X o EA ho fA => by
    have e12 : A 1 12 = X 94 8 := (ev_C EA).2.1.2.1
    obtain ⟨I1, g1, E1, f1⟩ := wW_2 EA hs ho
    refine ⟨I1, ?_, E1, fun a ha hb => by rw [f1 a (by omega), fA a ha hb]⟩
    have R := iv_R (ev_V E1)
    have w94 : wW X s o 94 0 = X 94 0 := by rw [wW_f (by decide)]
    rw [b153_26 L10 (ly_8 E.1 st), e12, g1, caln_v, b153_31 L10 (ly_0 E.1), k4 (ly_0 E.1) (ev_B E1) R, caln_r, b153_35]
    unfold nmO
    rw [if_pos (by rw [w94]; exact ho), wW_f (by decide)]
  have e27 : I 2 7 = J 94 0 := C.1.1
  unfold eFull eTt eTx eTo
  by_cases c0 : 0 ≤ sm D c
  · rw [if_pos c0, if_pos c0]
    refine ⟨fun q => by omega, fun _ => ?_⟩
    obtain ⟨I1, g1, E1, f1⟩ := rest I J (sm D c) E (by omega) (fun _ _ _ => rfl)
    refine ⟨I1, ?_, E1, f1⟩
    rw [b153_0 L10 (ly_0 E.1), e11, caln_r, b153_6, if_pos (by omega), b153_16, if_pos (by omega), g1]
  · have c1 : sm D c = -1 := by omega
    rw [if_neg c0, if_neg c0]
    by_cases c2 : J 94 0 = 100
    · refine ⟨fun _ => ?_, fun q => absurd ⟨by omega, c2⟩ q⟩
      rw [b153_0 L10 (ly_0 E.1), e11, caln_r, c1, b153_6, if_neg (fun q => q rfl), b153_10 L10 (ly_0 E.1), e27, if_neg (by omega), b153_15]
    · refine ⟨fun q => absurd q.2 c2, fun _ => ?_⟩
      obtain ⟨A, gA, EA, fA⟩ := tell_n (v4 := vU) (v5 := vU) E d W N B (by omega) (by omega) hb hb9 hE
      obtain ⟨I1, g1, E1, f1⟩ := rest A (nD J D c) (J 94 0) EA ⟨hT.1, by rw [nD_4, up1_eq]; omega⟩ (fun a ha _ => fA a (by omega))
      refine ⟨I1, ?_, E1, f1⟩
      rw [b153_0 L10 (ly_0 E.1), e11, caln_r, c1, b153_6, if_neg (fun q => q rfl), b153_10 L10 (ly_0 E.1), e27, if_pos (by omega), b153_16, if_neg (fun q => q rfl), b153_19 L10 (ly_0 E.1), gA, caln_r, b153_25, g1]
/-! the reference's memory -/
def RQ (X Y : Nat → Int → Int) : Prop := (∀ a, a ≠ 94 → a ≠ 99 → a ≠ 100 → X a = Y a) ∧ X 94 0 = Y 94 0 ∧ X 94 8 = Y 94 8
theorem RQ_U {a : Nat} {f g : Int → Int} (q : RQ X Y) (ha : a ≠ 94) (e : f = g) : RQ (rowU X a f) (rowU Y a g) := by
  subst e
  refine ⟨fun b h1 h2 h3 => ?_, ?_, ?_⟩
  · by_cases c : b = a
    · subst c; rw [rowU_eq, rowU_eq]
    · rw [rowU_ne c, rowU_ne c]; exact q.1 b h1 h2 h3
  · rw [rowU_ne (Ne.symm ha), rowU_ne (Ne.symm ha)]; exact q.2.1
  · rw [rowU_ne (Ne.symm ha), rowU_ne (Ne.symm ha)]; exact q.2.2
theorem RQ_kN {s k : Int} (q : RQ X Y) : RQ (kN X s k) (kN Y s k) := by
  have f := q.1
  unfold kN
  refine RQ_U (RQ_U (RQ_U q (by decide) ?_) (by decide) ?_) (by decide) ?_
  · rw [f 120 (by decide) (by decide) (by decide), f 115 (by decide) (by decide) (by decide)]
  · have : nC X = nC Y := by
      funext j
      unfold nC
      rw [f 116 (by decide) (by decide) (by decide), f 117 (by decide) (by decide) (by decide), f 118 (by decide) (by decide) (by decide)]
    rw [f 121 (by decide) (by decide) (by decide), this]
  · rw [f 122 (by decide) (by decide) (by decide), f 119 (by decide) (by decide) (by decide)]
theorem RQ_BL {s : Int} (q : RQ X Y) : BL X s = BL Y s := by
  funext o
  unfold BL
  rw [q.1 101 (by decide) (by decide) (by decide), q.1 103 (by decide) (by decide) (by decide), q.1 107 (by decide) (by decide) (by decide)]
theorem RQ_sY {s : Int} (q : RQ X Y) : RQ (sY X s) (sY Y s) := by
  have f := q.1
  have e2 : s2 X s = s2 Y s := by unfold s2; rw [f 101 (by decide) (by decide) (by decide), f 102 (by decide) (by decide) (by decide), q.2.1]
  have e3 : s3 X s = s3 Y s := by unfold s3; rw [f 101 (by decide) (by decide) (by decide), f 103 (by decide) (by decide) (by decide), q.2.1, RQ_BL q]
  have e1 : s1 X s = s1 Y s := by unfold s1; rw [e2, f 101 (by decide) (by decide) (by decide)]
  have j : RQ (sJ X s) (sJ Y s) := by
    unfold sJ
    refine RQ_U (RQ_U (RQ_U (RQ_U q (by decide) e2) (by decide) e3) (by decide) e1) (by decide) ?_
    rw [f 109 (by decide) (by decide) (by decide), f 110 (by decide) (by decide) (by decide)]
  unfold sY
  refine RQ_U (RQ_kN j) (by decide) ?_
  rw [f 104 (by decide) (by decide) (by decide)]
theorem RQ_dJ {s : Int} (q : RQ X Y) : RQ (dJ X s) (dJ Y s) := by
  unfold dJ
  rw [q.1 104 (by decide) (by decide) (by decide)]
  split
  · exact RQ_sY q
  · exact q
theorem RQ_dO {s a o : Int} (q : RQ X Y) : RQ (dO X s a o) (dO Y s a o) := by
  have j := RQ_dJ (s := s) q
  have f := j.1
  unfold dO dA
  refine RQ_U (RQ_U (RQ_U (RQ_U j (by decide) ?_) (by decide) ?_) (by decide) ?_) (by decide) ?_
  · rw [f 104 (by decide) (by decide) (by decide), f 105 (by decide) (by decide) (by decide)]
  · rw [f 104 (by decide) (by decide) (by decide), f 106 (by decide) (by decide) (by decide)]
  · rw [f 104 (by decide) (by decide) (by decide), f 107 (by decide) (by decide) (by decide)]
  · rw [f 104 (by decide) (by decide) (by decide)]
theorem RQ_wW {s o : Int} (q : RQ X Y) : RQ (wW X s o) (wW Y s o) := by
  have r : RQ (wR X s o) (wR Y s o) := by
    unfold wR
    refine RQ_U q (by decide) ?_
    rw [q.1 126 (by decide) (by decide) (by decide), q.2.2]
  have g : Gd X s o ↔ Gd Y s o := by
    unfold Gd GL
    rw [RQ_BL q, HE_cc (K := X) (J := Y) (fun a ha => q.1 a (by omega) (by omega) (by omega)), q.1 101 (by decide) (by decide) (by decide)]
  have j := RQ_dJ (s := s) r
  have d := RQ_dO (s := s) (a := 0) (o := o) r
  unfold wW
  by_cases c : Gd Y s o
  · rw [if_pos c, if_pos (g.mpr c)]
    exact r
  · rw [if_neg c, if_neg (fun t => c (g.mp t))]
    refine RQ_U d (by decide) ?_
    rw [d.1 101 (by decide) (by decide) (by decide), j.1 104 (by decide) (by decide) (by decide)]
end OPS19
