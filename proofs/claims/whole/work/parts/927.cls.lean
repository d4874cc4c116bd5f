/-! ===== the calls (10): sweep ===== -/
section OPS5
variable {n : Int} {h h1 : HP} {I I1 J K : Nat → Int → Int}
theorem EV_d {s : Int} (E : EV n h I J) (hs : s = 0 ∨ s = 1) (VK : IVX n K) (f : ∀ a, (94 ≤ a ∧ a ≤ 100) ∨ (115 ≤ a ∧ a ≤ 119) ∨ (123 ≤ a ∧ a ≤ 132) → K a = J a) (S : SU J K (1 - s)) (D : DN h I1 K (sto s + 1) s) (R : RD K s) (hI : ∀ c, c < sto s + 1 ∨ sto s + 1 + 19 < c ∨ (sto s + 1 + 6 ≤ c ∧ c ≤ sto s + 1 + 10) → I1 c = I c) : EV n h I1 K := by
  have Rs := RS_op (I1 := I1) (K := K) E hs (fun a ha => f a (by omega)) S (CS_d (ev_s E hs) D (fun a ha => f a (by omega)) (fun c hc => hI c (by omega))) (fun c hc => hI c (by omega))
  have X := RD2_of (ev_V E) hs S R
  exact ⟨E.1, E.2.1, Rs.2.2.1, INV_of VK X.1 X.2⟩
theorem uLo_z {s o : Int} : uLo J s o = zu2 (dO J s 2 o) 101 (120 * s + o) 0 := by rw [zu2_row]; rfl
theorem uPa_z {s p : Int} : uPa J s p = zu2 (dO J s 3 (20 * s + p)) 109 (20 * s + p) 0 := by rw [zu2_row]; rfl
theorem uLo_1 {s o : Int} (E : EV n h I J) (hs : s = 0 ∨ s = 1) (ho : 0 ≤ o ∧ o < J 94 0) : ∃ I1, Go 43 0 [.inr (.inl (some ((sto s + 1)))), .inl o] [] (mI h I) = some (mI h I1, .inl none) ∧ EV n h I1 (uLo J s o) ∧ ∀ c, c < sto s ∨ sto s + 31 < c → I1 c = I c := by
  have st := sto_o (s := s)
  have V := ev_V E
  have T := iv_T V
  have hT := iv_t V
  obtain ⟨I1, e1, D1, R1, f1⟩ := k43 (h := h) (I := I) (J := J) (d := sto s + 1) (s := s) (o := o) (by omega) (ly_3 E.1 st) (ly_4k E.1 st) E.2.1 (DC_n.mp (ev_s E hs).1).1 (iv_Q V) T (iv_Z V) (iv_RD V hs) hs (by omega)
  have V1 := IVX_dO (a := 2) (o := o) (IVX_of V) hs (by decide) (fun _ => by omega) (fun q => by omega) (fun q => by omega)
  have V2 := IVX_101 (o := o) (v := 0) V1 hs (by rw [dO_f (by decide)]; exact ho) (by decide)
  rw [← uLo_z] at V2
  have S : SU J (uLo J s o) (1 - s) := by
    rw [uLo_z]
    exact SU_t (SU_dO T (by omega) hs (by omega)) (SU_z 120 rfl (s := s) (by omega) (fun j j0 j1 => by omega))
  exact ⟨I1, e1, EV_d E hs V2 (fun a ha => by rw [uLo_z, zu2_row, rowU_ne (by omega), dO_f (by omega)]) S D1 R1 f1, fun c hc => f1 c (by omega)⟩
theorem uPa_1 {s p : Int} (E : EV n h I J) (hs : s = 0 ∨ s = 1) (hp : 0 ≤ p ∧ p < J 108 s) : ∃ I1, Go 44 0 [.inr (.inl (some ((sto s + 1)))), .inl p] [] (mI h I) = some (mI h I1, .inl none) ∧ EV n h I1 (uPa J s p) ∧ ∀ c, c < sto s ∨ sto s + 31 < c → I1 c = I c := by
  have st := sto_o (s := s)
  have V := ev_V E
  have T := iv_T V
  have hm := T.2.2.2.1.1 s hs
  obtain ⟨I1, e1, D1, R1, f1⟩ := k44 (h := h) (I := I) (J := J) (d := sto s + 1) (s := s) (p := p) (by omega) (ly_3 E.1 st) (ly_4k E.1 st) E.2.1 (DC_n.mp (ev_s E hs).1).1 (iv_Q V) T (iv_Z V) (iv_RD V hs) hs (by omega)
  have V1 := IVX_dO (a := 3) (o := 20 * s + p) (IVX_of V) hs (by decide) (fun q => by omega) (fun _ => by omega) (fun q => by omega)
  have V2 := IVX_109 (p := p) (v := 0) V1 hs (by rw [dO_f (by decide)]; exact hp) (Or.inl rfl)
  rw [← uPa_z] at V2
  have S : SU J (uPa J s p) (1 - s) := by
    rw [uPa_z]
    exact SU_t (SU_dO T (by omega) hs (by omega)) (SU_z 20 rfl (s := s) (by omega) (fun j j0 j1 => by omega))
  exact ⟨I1, e1, EV_d E hs V2 (fun a ha => by rw [uPa_z, zu2_row, rowU_ne (by omega), dO_f (by omega)]) S D1 R1 f1, fun c hc => f1 c (by omega)⟩
theorem sw1_133 {M : Nat → Int → Int} {s : Int} {e : Int → Int} (k : Nat) : (SW M s e k).1 133 = M 133 := SW_f (by decide) k
theorem sp1_133 {M : Nat → Int → Int} {s : Int} (k : Nat) : (SP M s k).1 133 = M 133 := SP_f (by decide) k
theorem k156 {s : Int} {e : Int → Int} {C : Int → Prop} {v2 v3 v4 : MV} (E : EV n h I J) (hs : s = 0 ∨ s = 1) (he : ∀ k, 0 ≤ k → k < J 94 0 → e k = I 9 k) (h75 : I 75 = ind C) (h133 : J 133 = ind C) :
    ∃ I1, Go 156 0 [.inr (.inl (some 1)), .inr (.inl (some ((sto s + 1)))), v2, v3, v4] [] (mI h I) = some (mI h I1, .inl (some (.inl (SW J s e (J 94 0).toNat).2))) ∧ EV n h I1 (SW J s e (J 94 0).toNat).1 ∧ ∀ c, c < sto s ∨ sto s + 31 < c → I1 c = I c := by
  have st := sto_o (s := s)
  have L10 := ly_10 E.1
  have L3 := ly_3 E.1 st
  have V := ev_V E
  have hT := iv_t V
  have EN := ev_nm E
  have key := lpE (fun k (z : (Nat → Int → Int) × MV) => Go 156 4 [.inr (.inl (some 1)), .inr (.inl (some ((sto s + 1)))), .inl (SW J s e k.toNat).2, .inl k, z.2] [] (mI h z.1))
    (fun k z => EV n h z.1 (SW J s e k.toNat).1 ∧ ∀ c, c < sto s ∨ sto s + 31 < c → z.1 c = I c) 0 (J 94 0) hT.1 ?_ (I, v4) ⟨E, fun _ _ => rfl⟩
  · obtain ⟨⟨B, w⟩, e1, q1, q2⟩ := key
    dsimp only at e1 q1 q2
    have B27 : B 2 7 = J 94 0 := by rw [q2 2 (by omega)]; exact (ev_B E).1
    refine ⟨B, ?_, q1, q2⟩
    rw [b156_0]
    refine e1.trans ?_
    rw [b156_4 L10 (ly_0 E.1), B27, if_pos (Int.le_refl _), b156_36]
  · rintro k ⟨B, w⟩ k0 k1 ⟨q1, q2⟩
    dsimp only at q1 q2 ⊢
    obtain ⟨M, hM⟩ : ∃ M, M = (SW J s e k.toNat).1 := ⟨_, rfl⟩
    have VM := ev_V q1
    rw [← hM] at q1 VM
    have TM := iv_T VM
    have B27 : B 2 7 = J 94 0 := by rw [q2 2 (by omega)]; exact (ev_B E).1
    have M94 : M 94 0 = J 94 0 := by
      have := (ev_B q1).1
      rw [← this, B27]
    have br := EN.1 k k0 k1
    have ek := he k k0 k1
    obtain ⟨o, ho⟩ : ∃ o, o = e k := ⟨_, rfl⟩
    have B9 : B 9 k = o := by rw [q2 9 (by omega), ho, ek]
    have oR : 0 ≤ o ∧ o < J 94 0 := by rw [ho, ek]; exact br
    have M133 : M 133 = ind C := by rw [hM, sw1_133, h133]
    have B75 : B 75 o = b01 (C o) := by rw [q2 75 (by omega), h75]; rfl
    have Bl : B (sto s + 1 + 1) o = lcI M s o := ((ev_s q1 hs).1.1.1 o oR.1 (by omega)).1
    have l0 := lc_0 (J := M) (s := s) (o := o) TM.2.1
    have MS := SW_s (M := J) (s := s) (e := e) k0
    rw [← hM, ← ho] at MS
    have c133 : (M 133 o = 0) ↔ ¬C o := by rw [M133]; exact ⟨fun q => by rw [ind_at] at q; exact q, fun q => by rw [ind_at]; exact q⟩
    have sb := SW_b (M := J) (s := s) (e := e) k.toNat
    rw [b156_4 L10 (ly_0 E.1), B27, if_neg (by omega), b156_9 L10 (ly_0 E.1) (by omega) L3 (by rw [B9]; omega), B9, Bl]
    have no : ¬s1C M s o → ∃ x1 : (Nat → Int → Int) × MV, Go 156 34 [.inr (.inl (some 1)), .inr (.inl (some ((sto s + 1)))), .inl (SW J s e k.toNat).2, .inl k, .inl o] [] (mI h B) = Go 156 4 [.inr (.inl (some 1)), .inr (.inl (some ((sto s + 1)))), .inl (SW J s e (k + 1).toNat).2, .inl (k + 1), x1.2] [] (mI h x1.1) ∧ EV n h x1.1 (SW J s e (k + 1).toNat).1 ∧ ∀ c, c < sto s ∨ sto s + 31 < c → x1.1 c = I c := fun nq => by
      refine ⟨(B, .inl o), ?_, ?_, q2⟩
      · dsimp only
        rw [b156_34 (by omega), MS, b01_f nq, Int.add_zero]
      · rw [MS]
        unfold sw1
        rw [if_neg nq]
        exact q1
    have yes : s1C M s o → ∃ x1 : (Nat → Int → Int) × MV, Go 156 30 [.inr (.inl (some 1)), .inr (.inl (some ((sto s + 1)))), .inl (SW J s e k.toNat).2, .inl k, .inl o] [] (mI h B) = Go 156 4 [.inr (.inl (some 1)), .inr (.inl (some ((sto s + 1)))), .inl (SW J s e (k + 1).toNat).2, .inl (k + 1), x1.2] [] (mI h x1.1) ∧ EV n h x1.1 (SW J s e (k + 1).toNat).1 ∧ ∀ c, c < sto s ∨ sto s + 31 < c → x1.1 c = I c := fun q => by
      obtain ⟨B1, e1, E1, f1⟩ := uLo_1 (o := o) q1 hs (by omega)
      refine ⟨(B1, .inl o), ?_, ?_, fun c hc => by dsimp only; rw [f1 c hc, q2 c hc]⟩
      · dsimp only
        rw [b156_30 L3, e1, caln_v, b156_33 (by omega), b156_34 (by omega), MS, b01_t q]
      · rw [MS]
        unfold sw1
        rw [if_pos q, ← uLo_z]
        exact E1
    by_cases c0 : lcI M s o = 0
    · rw [if_pos c0]
      exact no (fun q => (l0.mpr q.1) c0)
    · have c1 := l0.mp c0
      rw [if_neg c0, b156_20 L10 (ly_74 E.1) (by omega), B75]
      by_cases c2 : C o
      · rw [b01_t c2, if_neg neg1_ne, b156_26 L3, k36 L3 (ev_s q1 hs).1 (iv_M VM) TM.2.2.2.1 (iv_P VM) hs (by omega), caln_r, b156_29]
        by_cases c3 : HE M s o 1
        · rw [b01_t c3, if_neg neg1_ne]
          exact yes ⟨c1, Or.inr c3⟩
        · rw [b01_f c3, if_pos rfl]
          exact no (fun q => q.2.elim (fun t => (c133.mp t) c2) c3)
      · rw [b01_f c2, if_pos rfl]
        exact yes ⟨c1, Or.inl (c133.mpr c2)⟩
theorem k157 {s : Int} {C : Int → Prop} {v2 v3 v4 : MV} (E : EV n h I J) (hs : s = 0 ∨ s = 1) (h75 : I 75 = ind C) (h133 : J 133 = ind C) (h4 : ∃ r, v4 = .inr (.inl r) ∨ True) :
    ∃ I1, Go 157 0 [.inr (.inl (some 1)), .inr (.inl (some ((sto s + 1)))), v2, v3, v4] [] (mI h I) = some (mI h I1, .inl (some (.inl (SP J s (J 108 s).toNat).2))) ∧ EV n h I1 (SP J s (J 108 s).toNat).1 ∧ ∀ c, c < sto s ∨ sto s + 31 < c → I1 c = I c := by
  have st := sto_o (s := s)
  have L10 := ly_10 E.1
  have L3 := ly_3 E.1 st
  have V := ev_V E
  have hT := iv_t V
  have hm := (iv_T V).2.2.2.1.1 s hs
  have key := lpE (fun k (z : (Nat → Int → Int) × MV) => Go 157 4 [.inr (.inl (some 1)), .inr (.inl (some ((sto s + 1)))), .inl (SP J s k.toNat).2, .inl k, z.2] [] (mI h z.1))
    (fun k z => EV n h z.1 (SP J s k.toNat).1 ∧ ∀ c, c < sto s ∨ sto s + 31 < c → z.1 c = I c) 0 (J 108 s) hm.1 ?_ (I, v4) ⟨E, fun _ _ => rfl⟩
  · obtain ⟨⟨B, w⟩, e1, q1, q2⟩ := key
    dsimp only at e1 q1 q2
    have B5 : B (sto s + 1) 5 = J 108 s := by
      have := (ev_s q1 hs).1.2.1.1
      rw [SP_f (by decide)] at this
      exact this
    refine ⟨B, ?_, q1, q2⟩
    rw [b157_0]
    refine e1.trans ?_
    rw [b157_4 L3, B5, if_pos (Int.le_refl _), b157_26]
  · rintro k ⟨B, w⟩ k0 k1 ⟨q1, q2⟩
    dsimp only at q1 q2 ⊢
    obtain ⟨M, hM⟩ : ∃ M, M = (SP J s k.toNat).1 := ⟨_, rfl⟩
    have VM := ev_V q1
    rw [← hM] at q1 VM
    have TM := iv_T VM
    have M108 : M 108 s = J 108 s := by rw [hM, SP_f (by decide)]
    have D := (ev_s q1 hs).1
    have B5 : B (sto s + 1) 5 = J 108 s := by rw [D.2.1.1, M108]
    have M133 : M 133 = ind C := by rw [hM, sp1_133, h133]
    have B75 : B 75 = ind C := by rw [q2 75 (by omega), h75]
    have MS := SP_s (M := J) (s := s) k0
    rw [← hM] at MS
    have sb := SP_b (M := J) (s := s) k.toNat
    obtain ⟨a, ha, PCa⟩ := D.2.1.2 k k0 (by omega)
    have rowsM := TM.2.2.2.1.2 (20 * s + k) (by omega) (by omega)
    rw [b157_4 L3, B5, if_neg (by omega), b157_8 L3]
    have no : ∀ r : Option Nat, ¬s2C M (20 * s + k) → ∃ x1 : (Nat → Int → Int) × MV, Go 157 24 [.inr (.inl (some 1)), .inr (.inl (some ((sto s + 1)))), .inl (SP J s k.toNat).2, .inl k, .inr (.inl r)] [] (mI h B) = Go 157 4 [.inr (.inl (some 1)), .inr (.inl (some ((sto s + 1)))), .inl (SP J s (k + 1).toNat).2, .inl (k + 1), x1.2] [] (mI h x1.1) ∧ EV n h x1.1 (SP J s (k + 1).toNat).1 ∧ ∀ c, c < sto s ∨ sto s + 31 < c → x1.1 c = I c := fun r nq => by
      refine ⟨(B, .inr (.inl r)), ?_, ?_, q2⟩
      · dsimp only
        rw [b157_24 (by omega), MS, b01_f nq, Int.add_zero]
      · rw [MS]
        unfold sp1
        rw [if_neg nq]
        exact q1
    by_cases c0 : M 109 (20 * s + k) = 0
    · rw [(k33 L3 D (iv_M VM) hs (x := k)).1 (fun q => q.2.2 c0), caln_r, b157_11, if_pos rfl]
      exact no none (fun q => q.1 c0)
    · have e62 := k62 (h := h) (I := B) (J := M) (a := a) (b := 75) (p := 20 * s + k) (P := C) (v2 := vU) PCa (LX_k (ly_74 E.1) 1 false 1 1 100 rfl) TM.2.2.2.1 (iv_t VM).2 (by omega) B75
      have pr : PR M (20 * s + k) ↔ ∃ i, (0 ≤ i ∧ i < M 111 (20 * s + k)) ∧ C (M 112 (120 * (20 * s + k) + i)) := by
        unfold PR
        rw [M133]
        constructor
        · rintro ⟨i, hi, q⟩
          exact ⟨i, hi, Classical.byContradiction fun t => q (by rw [ind_at]; exact t)⟩
        · rintro ⟨i, hi, q⟩
          exact ⟨i, hi, fun t => by rw [ind_at] at t; exact t q⟩
      rw [(k33 L3 D (iv_M VM) hs (x := k)).2 a k0 (by omega) (by omega) c0 ha, caln_r, b157_11, if_neg (by intro t; cases t), b157_14 L10 (ly_74 E.1) PCa.1, e62, caln_r, b157_19]
      by_cases c1 : ∃ i, (0 ≤ i ∧ i < M 111 (20 * s + k)) ∧ C (M 112 (120 * (20 * s + k) + i))
      · rw [b01_t c1, if_pos neg1_ne]
        exact no (some a) (fun q => q.2 (pr.mpr c1))
      · have q : s2C M (20 * s + k) := ⟨c0, fun t => c1 (pr.mp t)⟩
        obtain ⟨B1, e1, E1, f1⟩ := uPa_1 (p := k) q1 hs (by omega)
        rw [b01_f c1, if_neg (fun t => t rfl), b157_20 L3, e1, caln_v, b157_23 (by omega), b157_24 (by omega)]
        refine ⟨(B1, .inr (.inl (some a))), ?_, ?_, fun c hc => by dsimp only; rw [f1 c hc, q2 c hc]⟩
        · dsimp only
          rw [MS, b01_t q]
        · rw [MS]
          unfold sp1
          rw [if_pos q, ← uPa_z]
          exact E1
noncomputable def enm (J : Nat → Int → Int) : Int → Int := @Classical.epsilon (Int → Int) ⟨fun _ => 0⟩ (EnN J)
theorem enm_s (V : INV n J) : EnN J (enm J) := @Classical.epsilon_spec _ (EnN J) (EnN_ex (iv_N V) (iv_t V).1)
theorem aw_enm (g : AW I J) : enm J = enm I := by
  unfold enm
  rw [aw_EnN g]
noncomputable def swX (J : Nat → Int → Int) (s : Int) : Nat → Int → Int := rowU J 133 (ind (Cl (Eg J s) (Rt J s)))
noncomputable def swK (J : Nat → Int → Int) (s : Int) : Nat → Int → Int := iP (s = 0 ∨ s = 1) (swJ (swX J s) s (enm J)) J
theorem Rt_r {s : Int} (V : INV n J) (hs : s = 0 ∨ s = 1) : SL J (Rt J s) := by
  have hT := iv_t V
  have G := iv_G V
  have h9 := G.2.2.2.2 s hs
  rintro j ((⟨k, k0, k1, q0, q1⟩ | ⟨k, k0, k1, _, q⟩) | ⟨k, k0, k1, q⟩)
  · have := iv_WR V k (by omega) (by omega)
    omega
  · have := G.1 s k hs k0 (by omega)
    omega
  · have := iv_WRp V s k hs k0 k1
    omega
theorem k134 {s : Int} {v2 : MV} (E : EV n h I J) (hn : n ≤ 512) : ∃ h1 I1, Go 134 0 [.inr (.inl (some 1)), .inl s, v2] [] (mI h I) = some (mI h1 I1, oc eA (ic (s = 0 ∨ s = 1) 0 1) (swN (swX J s) s (enm J))) ∧ RS h I h1 I1 (swK J s) ∧ INV n (swK J s) := by
  have st := sto_o (s := s)
  have L10 := ly_10 E.1
  have L7 := ly_74 E.1
  have V := ev_V E
  have hT := iv_t V
  unfold swK
  by_cases hs : s = 0 ∨ s = 1
  · rw [ic_t hs, iP_t hs]
    obtain ⟨P, hP, e75⟩ := ev_75 E
    obtain ⟨C, hC⟩ : ∃ C, C = Cl (Eg J s) (Rt J s) := ⟨_, rfl⟩
    have Rr := Rt_r V hs
    have Cr : SL J C := fun j q => by rw [hC] at q; exact Cl_lt (iv_R V).1 Rr j q
    have e1 : mI h I = mI h (rowU I 75 (ind P)) := by rw [← e75, rowU_id]
    have e71 : Go 71 0 [.inr (.inl (some 74)), vU] [] (mI h (rowU I 75 (ind P))) = some (mI h (rowU I 75 (ind (fun _ => False))), .inl none) := k71 (a := 74) L7 hP
    have d3 := (ev_C E).2.1.2.1
    have Cs := ev_s E hs
    have l := iv_l V hs
    have e86 : Go 86 0 [.inr (.inl (some ((sto s)))), .inr (.inl (some 74)), .inl (J 94 8), vU, vU, vU] [] (mI h (rowU I 75 (ind (fun _ => False)))) = some (mI h (rowU I 75 (ind (Rt J s))), .inl none) := by
      refine (k86 (a := 74) (P := fun _ => False) st (by decide) (by decide) (ly_8 E.1 st) (ly_3 E.1 st) (ly_4 E.1 st) L7 E.2.1 Cs.1 Cs.2.1 (iv_T V) (iv_M V) (iv_Z V) (iv_Zp V) (iv_WR V) (iv_G V) (iv_WRp V) (iv_126 V) (iv_127 V) (by have := iv_eN (J := J) (s := s); omega) hs).trans ?_
      rw [ind_c (P := fun j => False ∨ Rt J s j) (Q := Rt J s) (fun j => ⟨fun q => q.resolve_left id, Or.inr⟩)]
    have e75b : Go 75 0 [.inr (.inl (some 74)), .inr (.inl (some ((sto s + 7)))), vU] [] (mI h (rowU I 75 (ind (Rt J s)))) = some (mI h (rowU I 75 (ind C)), .inl none) := by
      rw [hC]
      exact k75 (a := 74) (P := Rt J s) (s := s) (ly_0 E.1) L7 (ly_4 E.1 st) (ev_B E) (iv_R V) (iv_Sh V) (ShC_N (ev_N E hs) hT.2) (by decide) (by omega) hs Rr
    obtain ⟨X, hX⟩ : ∃ X, X = swX J s := ⟨_, rfl⟩
    have gX : AW J X := by rw [hX]; exact AW_U (AW_r J) (Or.inl (by decide))
    have X133 : X 133 = ind C := by rw [hX, hC]; exact rowU_eq
    have EC := EV_w gX (EV_75 E (SL_1 E Cr))
    obtain ⟨A, hA⟩ : ∃ A, A = rowU I 75 (ind C) := ⟨_, rfl⟩
    rw [← hA] at EC
    have X94 : X 94 0 = J 94 0 := aw_0 gX
    have EN1 := ev_nm EC
    have EN2 : EnN X (enm J) := by rw [aw_EnN gX]; exact enm_s V
    have uq := (Enum_u (TO_nm (iv_N (ev_V EC)) (T := fun j => 0 ≤ j ∧ j < X 94 0) (fun j q => q)) EN2 EN1 (by omega) (by omega)).2
    obtain ⟨B, e156, EB, fB⟩ := k156 (h := h) (I := A) (J := X) (s := s) (e := enm J) (C := C) (v2 := vU) (v3 := vU) (v4 := vU) EC hs (fun k k0 k1 => uq k k0 k1) (by rw [hA, rowU_eq]) X133
    obtain ⟨M, hM⟩ : ∃ M, M = (SW X s (enm J) (X 94 0).toNat).1 := ⟨_, rfl⟩
    rw [← hM] at EB
    have M108 : M 108 s = X 108 s := by rw [hM, SW_f (by decide)]
    obtain ⟨D, e157, ED, fD⟩ := k157 (h := h) (I := B) (J := M) (s := s) (C := C) (v2 := vU) (v3 := vU) (v4 := vU) EB hs (by rw [fB 75 (by omega), hA, rowU_eq]) (by rw [hM, sw1_133, X133]) ⟨none, Or.inr trivial⟩
    rw [M108] at e157 ED
    have sb := SW_b (M := X) (s := s) (e := enm J) (X 94 0).toNat
    have pb := SP_b (M := M) (s := s) (X 108 s).toNat
    have hm := (iv_T (ev_V EC)).2.2.2.1.1 s hs
    have eK : swJ (swX J s) s (enm J) = (SP M s (X 108 s).toNat).1 := by rw [hM, ← hX]; rfl
    have eN : swN (swX J s) s (enm J) = (SW X s (enm J) (X 94 0).toNat).2 + (SP M s (X 108 s).toNat).2 := by rw [hM, ← hX]; rfl
    rw [eK, eN]
    refine ⟨h, D, ?_, EV_RS E ED (fun c c0 c1 => by rw [fD c (by omega), fB c (by omega), hA, rowU_ne (by omega)]), ev_V ED⟩
    rw [b134_0 L10, k142 E.1 hs, caln_r, b134_3 L10 L7, e1, e71, caln_v, b134_7 L10 (ly_8 E.1 st), rowU_ne (by decide), d3, e86, caln_v, b134_13 L10 (ly_8 E.1 st) (ly_3 E.1 st) L7, e75b, caln_v, b134_19 (ly_8 E.1 st) L10, ← hA, e156, caln_r, b134_23 (ly_8 E.1 st) L10, e157, caln_r, b134_27 (by omega), oc_0]
  · rw [ic_f hs, iP_f hs]
    exact ⟨hThr h, I, by rw [b134_0 L10, k142x hs, caln_x]; rfl, RS_x E, V⟩
theorem s134 {s : Int} (E : EV n h I I) (S : WSc I) (hn : n ≤ 512) : STEP 134 [.inr (.inl (some 1)), .inl s, vU] 259 [.inr (.inl (some 94)), .inl s, vU, vU, vU, vU, vU] eA n h I :=
  STEP_mkx (c := fun _ => ic (s = 0 ∨ s = 1) 0 1) (v := fun J => swN (swX J s) s (enm J)) (K := fun J => swK J s) (X := INV n) E S eA_i (fun _ => ic_01) (fun J E => k134 E hn)
    (fun h2 I2 L V S => by
      have g := AW_t (x := 0) (AW_r I2)
      have V2 : INV n (tH I2 0) := by rw [aw_INV g]; exact V
      rw [r259 (e := enm I2) L (iv_T V) (iv_N V) (iv_X V) (enm_s V) (iv_WR V) (iv_G V) (iv_WRp V) (WSc_133e S)]
      refine ⟨tH I2 0, ?_⟩
      unfold swK
      dsimp only
      by_cases hs : s = 0 ∨ s = 1
      · have ex : swX (tH I2 0) s = rowU (tH I2 0) 133 (ind (Cl (Eg I2 s) (Rt I2 s))) := by
          unfold swX
          rw [aw_Eg g, Rt_t]
        rw [aq_t hs, ic_t hs, iP_t hs, ex, aw_enm g]
        obtain ⟨X, hX⟩ : ∃ X, X = rowU (tH I2 0) 133 (ind (Cl (Eg I2 s) (Rt I2 s))) := ⟨_, rfl⟩
        rw [← hX]
        have f : ∀ a, a < 101 ∨ 122 < a → swJ X s (enm I2) a = X a := fun a ha => by
          unfold swJ
          rw [SP_f (by omega), SW_f (by omega)]
        refine ⟨_, _, g, rfl, by rw [f 94 (by decide), hX, rowU_ne (by decide), tH_49], fun _ => rfl, fun a ha => by rw [f a (by omega), hX, rowU_ne (by omega), tH_n (by omega)], AW_r _, fun W => INV_s W, WSc_k (I := X) (fun a a0 a1 => f a (by omega)) ?_⟩
        rw [hX]
        exact WSc_133 (WSc_t S) (S3_l (iv_R V).1 (fun j q => Cl_lt (iv_R V).1 (Rt_r V hs) j q))
      · rw [aq_f hs, ic_f hs, iP_f hs]
        exact ⟨_, _, g, rfl, tH_49, (fun q => absurd q (by decide)), fun a ha => tH_n (by omega), aw_tJ I2 1, fun _ => INV_s V2, WSc_t S⟩)
end OPS5
