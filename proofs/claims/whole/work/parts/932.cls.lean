/-! ===== the calls (15): walk ===== -/
theorem Gn_u {E : Int → Int → Prop} {P : Int → Prop} {f g ρ : Int → Int} (hc : ∀ a b, P a → E a b → P b) (hr : ∀ a b, P a → E a b → ρ b < ρ a) (h0 : ∀ a, 0 ≤ ρ a) (F : Gn E P f) (G : Gn E P g) : ∀ k, P k → f k = g k := by
  have key : ∀ N : Nat, ∀ k, P k → ρ k < N → f k = g k := by
    intro N
    induction N with
    | zero =>
      intro k _ hk
      have := h0 k
      omega
    | succ N ih =>
      intro k pk hk
      obtain ⟨f1, f2, f3⟩ := F k pk
      obtain ⟨g1, g2, g3⟩ := G k pk
      have i : ∀ b, E k b → f b = g b := fun b e => ih b (hc k b pk e) (by have := hr k b pk e; omega)
      have a1 : f k ≤ g k := by
        obtain q | ⟨b, e, q⟩ := f3
        · omega
        · have := i b e
          have := g2 b e
          omega
      have a2 : g k ≤ f k := by
        obtain q | ⟨b, e, q⟩ := g3
        · omega
        · have := i b e
          have := f2 b e
          omega
      omega
  intro k pk
  exact key (ρ k + 1).toNat k pk (by have := h0 k; omega)
section OPS10
variable {n m : Int} {h h1 : HP} {I I1 J K M D : Nat → Int → Int}
noncomputable def wkC (J : Nat → Int → Int) (s x y : Int) : Int := ic (p1 J s x y) (ic (p4 J x y) 0 2) 1
theorem k122x {s x y : Int} {v4 v5 v6 : MV} (E : EV n h I J) (nq : ¬(p1 J s x y ∧ p4 J x y)) : Go 122 0 [.inr (.inl (some 1)), .inl s, .inl x, .inl y, v4, v5, v6] [] (mI h I) = some (mI (hThr h) I, .inr (eA (wkC J s x y))) := by
  have L10 := ly_10 E.1
  have L0 := ly_0 E.1
  have V := ev_V E
  have R := iv_R V
  have hT := iv_t V
  unfold wkC
  by_cases hs : s = 0 ∨ s = 1
  · by_cases hx : 0 ≤ fnd J x
    · by_cases hy : y = -1 ∨ 0 ≤ fnd J y
      · have P1 : p1 J s x y := ⟨hs, hx, hy⟩
        have np : ¬p4 J x y := fun t => nq ⟨P1, t⟩
        have fx := fr_t V hx
        rw [ic_t P1, ic_f np, b122_0 L10, k142 E.1 hs, caln_r, b122_3 L10, k144 E hx, caln_r, b122_7 L10, k145 E hy, caln_r, b122_11 L10 L0, k3 L0 (ev_B E) R, caln_r, kdO_t fx, b122_16]
        by_cases k2 : J 95 (fnd J x) = 2
        · have nv : ¬(fnd J y = -1 ∨ kdO J (fnd J y) = 2) := fun t => np ⟨⟨hx, k2⟩, by
            by_cases c : 0 ≤ fnd J y
            · obtain t | t := t
              · omega
              · exact Or.inr ⟨c, by rw [← kdO_t (fr_t V c)]; exact t⟩
            · exact Or.inl (hy.resolve_right c)⟩
          rw [if_neg (fun t => t k2), b122_18 L10, k149 E, caln_r, b01_f nv, b122_21, if_neg (fun t => t rfl), b122_22]
          rfl
        · rw [if_pos k2, b122_22]
          rfl
      · have P1 : ¬p1 J s x y := fun q => hy q.2.2
        rw [ic_f P1, b122_0 L10, k142 E.1 hs, caln_r, b122_3 L10, k144 E hx, caln_r, b122_7 L10, k145x E hy, caln_x]
        rfl
    · have P1 : ¬p1 J s x y := fun q => hx q.2.1
      rw [ic_f P1, b122_0 L10, k142 E.1 hs, caln_r, b122_3 L10, k144x E hx, caln_x]
      rfl
  · have P1 : ¬p1 J s x y := fun q => hs q.1
    rw [ic_f P1, b122_0 L10, k142x hs, caln_x]
    rfl
theorem k122 {s x y : Int} {v4 v5 v6 : MV} (E : EV n h I J) (P1 : p1 J s x y) (P4 : p4 J x y) :
    ∃ (I1 : Nat → Int → Int) (f : Int → Int) (c : Int), Go 122 0 [.inr (.inl (some 1)), .inl s, .inl x, .inl y, v4, v5, v6] [] (mI h I) = some (mI h I1, .inl (some (.inl c))) ∧ Gn (Es J s 0) (Vs J) f ∧ I1 76 5 = c ∧ (0 ≤ c ∧ c ≤ J 94 0) ∧ Enum (wS J s x y) (Ah J s f) c (I1 80) ∧ (∀ c, c < 76 ∨ 80 < c → I1 c = I c) ∧ (∀ j, j < 0 ∨ 100 ≤ j → I1 78 j = 0) ∧ ∀ j, j < 0 ∨ 100 ≤ j → I1 79 j = 0 := by
  have L10 := ly_10 E.1
  have L0 := ly_0 E.1
  have V := ev_V E
  have R := iv_R V
  have hT := iv_t V
  have T := iv_T V
  obtain ⟨hs, hx, hy⟩ := P1
  obtain ⟨⟨_, k2⟩, hv⟩ := P4
  have st := sto_o (s := s)
  have fx := fr_t V hx
  have vx : Vs J (fnd J x) := ⟨fx, k2⟩
  have vy : fnd J y = -1 ∨ Vs J (fnd J y) := by
    obtain q | q := hv
    · left; rw [q]; exact fnd_n V
    · exact Or.inr ⟨fr_t V q.1, q.2⟩
  have vz : fnd J y = -1 ∨ kdO J (fnd J y) = 2 := vy.imp id (fun q => by rw [kdO_t q.1]; exact q.2)
  have C5 := (ev_C E).2.2.2.2
  obtain ⟨I1, f, c, e88, G, e5, hc, EN, fr, f76, e78, e79⟩ := k88 (h := h) (I := I) (J := J) (n := sto s + 7) (s := s) (x := fnd J x) (y := fnd J y) (v4 := vU) L0 (ly_76 E.1) (ly_4 E.1 st) (by omega) (ev_B E) R (ev_N E hs) T.2.2.1 (iv_WV V) (iv_V8 V hs) hs vx vy (iv_A V hs 0) C5.2.2.1 C5.2.2.2
  have out : ∀ z, (z = -1 ∨ Vs J z) → ∀ j, j < 0 ∨ 100 ≤ j → ind (Cl (Es J s 0) (fun i => 0 ≤ i ∧ i = z)) j = 0 := fun z hz j hj => b01_f (fun q => by
    have := Cl_ind (P := Vs J) q (fun a qa => by
      rw [qa.2]
      exact hz.resolve_left (by have := qa.1; have := qa.2; omega)) (fun a b pa eb => Es_v R.1 T.2.2.1 (iv_WV V) hs pa eb)
    have := this.1
    omega)
  refine ⟨I1, f, c, ?_, G, e5, hc, Enum_c EN (fun j => ?_) (fun _ _ _ _ => Iff.rfl) (fun _ _ _ => rfl), fr, by rw [e78]; exact out _ (Or.inr vx), by rw [e79]; exact out _ vy⟩
  · rw [b122_0 L10, k142 E.1 hs, caln_r, b122_3 L10, k144 E hx, caln_r, b122_7 L10, k145 E hy, caln_r, b122_11 L10 L0, k3 L0 (ev_B E) R, caln_r, kdO_t fx, b122_16, if_neg (fun t => t k2), b122_18 L10, k149 E, caln_r, b01_t vz, b122_21, if_pos neg1_ne, b122_23 L10 (ly_8 E.1 st) (ly_3 E.1 st) (ly_76 E.1), e88, caln_v, b122_31 L10 (ly_76 E.1), e5]
  · unfold wS
    have ex : Cl (Es J s 0) (fun i => 0 ≤ i ∧ i = fnd J x) j ↔ Cl (Es J s 0) (fun i => i = fnd J x) j := ⟨Cl_mo (fun a q => q.2), Cl_mo (fun a q => ⟨by rw [q]; exact hx, q⟩)⟩
    rw [ex]
    refine and_congr_right (fun _ => not_congr ?_)
    by_cases ym : y = -1
    · have e1 : fnd J y = -1 := by rw [ym]; exact fnd_n V
      constructor
      · intro q
        obtain ⟨a, sa, _⟩ := Cl_ex q
        omega
      · exact fun q => absurd ym q.1
    · have hy2 := hy.resolve_left ym
      exact ⟨fun q => ⟨ym, Cl_mo (fun a q => q.2) q⟩, fun q => Cl_mo (fun a r => ⟨by rw [r]; exact hy2, r⟩) q.2⟩
theorem s122 {s x y : Int} (E : EV n h I I) (S : WSc I) (hn : n ≤ 9999) : STEP 122 [.inr (.inl (some 1)), .inl s, .inl x, .inl y, vU, vU, vU] 232 [.inr (.inl (some 94)), .inl s, .inl x, .inl y, vU, vU] eA n h I := by
  have V := ev_V E
  have T := iv_T V
  have hT := iv_t V
  have R := iv_R V
  by_cases p : p1 I s x y ∧ p4 I x y
  · obtain ⟨P1, P4⟩ := p
    have hs := P1.1
    obtain ⟨I1, f, c, e1, G, e5, hc, EN, fr, z78, z79⟩ := k122 (v4 := vU) (v5 := vU) (v6 := vU) E P1 P4
    refine ⟨h, I1, 0, c, e1, XT_w (XT_r h) (by decide) (by decide), E.2.1, fun a a0 a1 => fr a (by omega), Or.inl rfl, fun h2 I2 L hI2 => ?_⟩
    have g : AW I I2 := AW_c (fun a a0 a1 => by rw [hI2 a (by omega), fr a (by omega)])
    have V2 : INV n I2 := by rw [aw_INV g]; exact V
    have S2 : WSc I2 := WSc_k (I := I) (fun a a0 a1 => by rw [hI2 a (by omega), fr a (by omega)]) S
    obtain ⟨K, d, hW, e2⟩ := r232 (h := h2) (I := I2) (s := s) (x := x) (y := y) (v4 := vU) (v5 := vU) L (iv_T V2) (iv_WV V2) (iv_AC V2) (iv_N V2) (WSc_133e S2) (S2 137 (by decide) (by decide))
    have Q1 : p1 I2 s x y := by rw [aw_p1 g]; exact P1
    have Q4 : p4 I2 x y := by unfold p4; rw [aw_kI g]; exact P4
    obtain ⟨⟨w1, w2, w3, w4⟩, wc, f2, e, G2, EN2, we⟩ := hW Q1 Q4
    have gJ := AW_tr g (AW_t (x := 0) (AW_r I2))
    have aS : ∀ j, wS (tH I2 0) s x y j ↔ wS I s x y j := fun j => by
      unfold wS
      rw [aw_Es gJ, aw_fnd gJ]
    -- the same generations
    have cV : ∀ j, Cl (Es I s 0) (fun i => i = fnd I x) j → Vs I j := fun j q => Cl_ind (P := Vs I) q (fun a qa => by rw [qa]; exact ⟨fr_t V P1.2.1, P4.1.2⟩) (fun a b pa eb => Es_v R.1 T.2.2.1 (iv_WV V) hs pa eb)
    obtain ⟨ρ, r0, _, r2⟩ := AC_b (iv_AC V) R.1 T.2.2.1 (iv_WV V) hs
    have gq : ∀ k, Cl (Es I s 0) (fun i => i = fnd I x) k → f k = f2 k := by
      refine Gn_u (E := Es I s 0) (ρ := ρ) (fun a b pa eb => Cl_step pa eb) (fun a b pa eb => r2 a b (cV a pa) (Es_1 eb)) (fun a => (r0 a).1) (fun k pk => G k (cV k pk)) ?_
      rw [aw_Es gJ, aw_fnd gJ] at G2
      exact G2
    have ed : dt (tH I2 0) = dt I := by
      unfold dt sa
      rw [gJ.1 118 (by decide) (by decide), gJ.1 97 (by decide) (by decide)]
    have aA : ∀ a b, wS I s x y a → wS I s x y b → (Ah (tH I2 0) s f2 a b ↔ Ah I s f a b) := fun a b sa sb => by
      unfold Ah
      rw [ed, gJ.1 98 (by decide) (by decide), gq a sa.1, gq b sb.1]
    have EN3 : Enum (wS I s x y) (Ah I s f) d e := Enum_c EN2 aS (fun a b sa sb => aA a b ((aS a).mp sa) ((aS b).mp sb)) (fun _ _ _ => rfl)
    have hd : 0 ≤ d := by rw [wc]; exact (cN_b _).1
    obtain ⟨ecd, eq80⟩ := Enum_u (TO_Ah (iv_N V) (fun j (q : wS I s x y j) => (cV j q.1).1)) EN EN3 hc.1 hd
    have K94 : ∀ k, k ≠ 41 → k ≠ 49 → K 94 k = I 94 k := fun k k1 k2 => by rw [w2, up1_ne k1, tH_94 k2]; exact g.2 k k2
    have K41 : K 94 41 = c := by rw [w2, up1_eq, ecd]
    have Kf : ∀ a, (95 ≤ a ∧ a ≤ 98) ∨ a = 99 ∨ (101 ≤ a ∧ a ≤ 131) → K a = I a := fun a ha => by
      rw [w1 a (by omega) (by omega), tH_n (by omega)]
      exact g.1 a (by omega) (by omega)
    have C := ev_C E
    have v8 := iv_8 V
    have g8 := (iv_G V).2.2.2.1
    refine ⟨K, d, by rw [e2, if_pos Q1, aq_t Q4], by rw [w2, up1_ne (by decide), tH_49], fun _ => ecd.symm, fun a ha => by rw [w1 a (by omega) (by omega), tH_n (by omega)], CPL_g C T E.2.1 (fun a ha => Kf a (by omega)) (K94 0 (by decide) (by decide)) (fun a ha => fr a (by omega)) ?_ ?_ ?_, INV_g V (fun a ha => Kf a (by omega)) (K94 0 (by decide) (by decide)) (by omega) ?_ ?_ ?_ ?_, fun a a0 a1 => ?_⟩
    · have q := C.2.1
      unfold CD at q ⊢
      rw [fr 1 (by decide), fr 92 (by decide), K94 5 (by decide) (by decide), K94 8 (by decide) (by decide), K94 9 (by decide) (by decide), Kf 99 (by decide)]
      exact q
    · unfold CWl
      rw [K41, K94 0 (by decide) (by decide), Kf 98 (by decide)]
      refine ⟨e5, fun k k0 k1 => ⟨(cV _ (EN.1 k k0 k1).1).1, ?_⟩⟩
      rw [we k k0 (by omega), eq80 k k0 k1, gJ.1 98 (by decide) (by decide)]
    · have q := C.2.2.2.2
      unfold CR SL at q ⊢
      rw [fr 75 (by decide), fr 87 (by decide), fr 89 (by decide), fr 84 (by decide), fr 90 (by decide), fr 91 (by decide), K94 0 (by decide) (by decide)]
      exact ⟨q.1, q.2.1, z78, z79⟩
    · unfold WD
      rw [K94 5 (by decide) (by decide), Kf 99 (by decide)]
      exact iv_D V
    · rw [K94 8 (by decide) (by decide)]; omega
    · rw [K94 9 (by decide) (by decide)]; exact iv_9 V
    · rw [K41]; omega
    · by_cases a3 : a = 133
      · rw [a3]; exact w3
      · by_cases a7 : a = 137
        · rw [a7]; exact w4
        · rw [w1 a (by omega) (by omega), tH_n (by omega)]
          exact S2 a a0 a1
  · refine ⟨hThr h, I, wkC I s x y, 0, ?_, XT_w (XT_thr h) (by decide) (by decide), E.2.1, fun _ _ _ => rfl, ic_3 (by decide) (by decide) (by decide), fun h2 I2 L hI2 => ?_⟩
    · rw [k122x E p]
      unfold oc
      rw [if_neg]
      unfold wkC
      intro q
      by_cases c : p1 I s x y
      · rw [ic_t c, ic_f (fun t => p ⟨c, t⟩)] at q
        exact absurd q (by decide)
      · rw [ic_f c] at q
        exact absurd q (by decide)
    · have g : AW I I2 := AW_c (fun a a0 a1 => hI2 a (by omega))
      have V2 : INV n I2 := by rw [aw_INV g]; exact V
      have S2 : WSc I2 := WSc_k (I := I) (fun a a0 a1 => hI2 a (by omega)) S
      obtain ⟨K, d, _, e2⟩ := r232 (h := h2) (I := I2) (s := s) (x := x) (y := y) (v4 := vU) (v5 := vU) L (iv_T V2) (iv_WV V2) (iv_AC V2) (iv_N V2) (WSc_133e S2) (S2 137 (by decide) (by decide))
      have e1 : p1 I2 s x y = p1 I s x y := aw_p1 g
      have e4 : p4 I2 x y = p4 I x y := by unfold p4; rw [aw_kI g]
      have gt : ∀ t : Int, AW I (tH I2 t) := fun t => AW_t g
      have fin : ∀ t : Int, Go 232 0 [.inr (.inl (some 94)), .inl s, .inl x, .inl y, vU, vU] [] (mI h2 I2) = some (mI h2 (tH I2 t), .inl (some (.inl 0))) → t = wkC I s x y → wkC I s x y ≠ 0 → ∃ I3 w, Go 232 0 [.inr (.inl (some 94)), .inl s, .inl x, .inl y, vU, vU] [] (mI h2 I2) = some (mI h2 I3, .inl (some (.inl w))) ∧ I3 94 49 = wkC I s x y ∧ (wkC I s x y = 0 → w = 0) ∧ (∀ a, a < 94 ∨ 138 < a → I3 a = I2 a) ∧ CPL (hThr h) I I3 ∧ INV (n + 1) I3 ∧ WSc I3 := fun t et h1 h0 =>
        ⟨tH I2 t, 0, et, by rw [tH_49, h1], fun q => absurd q h0, fun a ha => tH_n (by omega), CPL_thr (CPL_w (gt t) T E.2.2.1), INV_s (by rw [aw_INV (gt t)]; exact V), WSc_t S2⟩
      by_cases c : p1 I s x y
      · have nc : ¬p4 I x y := fun t => p ⟨c, t⟩
        have ew : wkC I s x y = 2 := by unfold wkC; rw [ic_t c, ic_f nc]
        exact fin 2 (by rw [e2, e1, e4, if_pos c, aq_f nc]) ew.symm (by rw [ew]; decide)
      · have ew : wkC I s x y = 1 := by unfold wkC; rw [ic_f c]
        exact fin 1 (by rw [e2, e1, if_neg c]) ew.symm (by rw [ew]; decide)
end OPS10
