/-! ===== the class (22): a pack is added ===== -/
theorem RD_c {J K : Nat → Int → Int} {s : Int} (H : ∀ c, (c = 101 ∨ c = 102 ∨ c = 104 ∨ c = 105 ∨ c = 106 ∨ c = 109 ∨ c = 110) ∨ (115 ≤ c ∧ c ≤ 122) → K c = J c) (R : RD J s) : RD K s := by
  have h5 : ∀ k, 0 ≤ k → k < ((J 104 s).toNat : Int) → K 105 (30 * s + k) = J 105 (30 * s + k) ∧ K 106 (30 * s + k) = J 106 (30 * s + k) := fun k _ _ => by rw [H 105 (by omega), H 106 (by omega)]; exact ⟨rfl, rfl⟩
  rw [RD, H 104 (by omega)]
  refine ⟨fun y y0 y1 => ?_, fun p p0 p1 => ?_, ?_⟩
  · rw [H 101 (by omega), lv_c (H 102 (by omega)) _ h5]
    exact R.1 y y0 y1
  · rw [H 109 (by omega), pv_c (by rw [H 110 (by omega)]) _ h5]
    exact R.2.1 p p0 p1
  · rw [nv_c _ h5]
    have c := R.2.2
    unfold CN nC at c ⊢
    rw [H 115 (by omega), H 116 (by omega), H 117 (by omega), H 118 (by omega), H 119 (by omega), H 120 (by omega), H 121 (by omega), H 122 (by omega)]
    exact c
theorem sY_108 {X : Nat → Int → Int} {f : Int → Int} {s : Int} : sY (rowU X 108 f) s = rowU (sY X s) 108 f := by
  funext a
  by_cases h : a = 108
  · subst h
    rw [sY_f (a := 108) (by decide), rowU_eq, rowU_eq]
  · rw [rowU_ne h]
    have e1 : s2 (rowU X 108 f) s = s2 X s := by
      unfold s2
      rw [rowU_ne (by decide), rowU_ne (by decide), rowU_ne (by decide)]
    have e2 : s3 (rowU X 108 f) s = s3 X s := by
      unfold s3
      rw [BL_U (by decide), rowU_ne (by decide), rowU_ne (by decide), rowU_ne (by decide)]
    have e3 : s1 (rowU X 108 f) s = s1 X s := by
      unfold s1
      rw [e1, rowU_ne (by decide)]
    have e4 : ∀ b, b ≠ 108 → sJ (rowU X 108 f) s b = sJ X s b := by
      intro b hb
      unfold sJ
      rw [e1, e2, e3, rowU_ne (by decide : (110 : Nat) ≠ 108), rowU_ne (by decide : (109 : Nat) ≠ 108)]
      simp only [rowU]
      rw [if_neg hb]
    have e5 : nC (sJ (rowU X 108 f) s) = nC (sJ X s) := by
      funext j
      unfold nC
      rw [e4 116 (by decide), e4 117 (by decide), e4 118 (by decide)]
    unfold sY kN
    rw [e5, e4 120 (by decide), e4 121 (by decide), e4 122 (by decide), e4 115 (by decide), e4 119 (by decide), rowU_ne (by decide : (104 : Nat) ≠ 108)]
    simp only [rowU]
    rw [e4 a h]
theorem dO_108 {X : Nat → Int → Int} {f : Int → Int} {s a o : Int} : dO (rowU X 108 f) s a o = rowU (dO X s a o) 108 f := by
  have e : dJ (rowU X 108 f) s = rowU (dJ X s) 108 f := by
    unfold dJ
    rw [rowU_ne (by decide)]
    split
    · exact sY_108
    · rfl
  unfold dO dA
  rw [e]
  funext b
  simp only [rowU]
  by_cases h : b = 108
  · subst h; rfl
  · simp only [h, Nat.reduceEqDiff, if_false, ↓reduceIte]
theorem k42 {h : HP} {I J X : Nat → Int → Int} {d a : Nat} {s : Int} {v2 : MV} (hd : d = 11 ∨ d = 43) (S : STA h) (L : LX 3 h d) (L4 : LX 4 h (d + 11)) (W : OWN h) (D : DN h I J d s) (Q : WQc J) (T : WT J) (Z : ZO J) (R : RD J s) (hs : s = 0 ∨ s = 1) (hm : J 108 s < 20)
    (TX : WT X) (hX : ∀ c, 94 ≤ c → c ≤ 132 → c ≠ 108 → (c < 111 ∨ 114 < c) → X c = J c) (hO : OP J X (20 * s + J 108 s)) (C : PC h I X a (20 * s + J 108 s)) (F : ∀ y j b, OAr y → hR h y j = some b → b + owz y < a) (h8 : X 108 = up1 (J 108) s (J 108 s + 1)) :
    ∃ h1 I1, Go 42 0 [.inr (.inl (some d)), .inr (.inl (some a)), v2] [] (mI h I) = some (mI h1 I1, .inl (some (.inl (J 108 s)))) ∧ DN h1 I1 (rowU (dO X s 1 (20 * s + J 108 s)) 109 (up1 (J 109) (20 * s + J 108 s) 1)) d s ∧ RD (rowU (dO X s 1 (20 * s + J 108 s)) 109 (up1 (J 109) (20 * s + J 108 s) 1)) s ∧ OWN h1 ∧ XT h h1 0 0 ∧ (∀ x k, OAr x → x ≠ d + 3 → hR h1 x k = hR h x k) ∧ ∀ c, (c < d ∨ d + 19 < c ∨ (d + 6 ≤ c ∧ c ≤ d + 10)) → I1 c = I c := by
  obtain ⟨m, hmm⟩ : ∃ m, m = J 108 s := ⟨_, rfl⟩
  obtain ⟨p, hp⟩ : ∃ p, p = 20 * s + m := ⟨_, rfl⟩
  obtain ⟨Y, hY⟩ : ∃ Y, Y = rowU X 108 (J 108) := ⟨_, rfl⟩
  rw [← hmm] at hm hO C h8 ⊢
  rw [← hp] at hO C ⊢
  have m0 := (T.2.2.2.1.1 s hs).1
  have YX : ∀ c, c ≠ 108 → Y c = X c := fun c hc => by rw [hY, rowU_ne hc]
  have Y8 : Y 108 = J 108 := by rw [hY, rowU_eq]
  have YJ : ∀ c, 94 ≤ c → c ≤ 132 → (c < 111 ∨ 114 < c) → Y c = J c := fun c h0 h1 h2 => by
    by_cases q : c = 108
    · subst q; exact Y8
    · rw [YX c q, hX c h0 h1 q h2]
  have TY : WT Y := by
    obtain ⟨w1, w2, w3, w4, w5, w6, w7⟩ := TX
    refine ⟨?_, ?_, ?_, ⟨?_, ?_⟩, ?_, ?_, ?_⟩
    · rw [WB_e (by rw [YX 94 (by decide)]) (YX 95 (by decide)) (YX 96 (by decide)) (YX 97 (by decide)) (YX 98 (by decide))]; exact w1
    · unfold WL; rw [YX 101 (by decide), YX 103 (by decide), YX 107 (by decide)]; exact w2
    · unfold WN; rw [YX 118 (by decide)]; exact w3
    · rw [Y8]; exact T.2.2.2.1.1
    · rw [YX 94 (by decide), YX 111 (by decide), YX 112 (by decide), YX 113 (by decide)]; exact w4.2
    · rw [YX 109 (by decide)]; exact w5
    · rw [YX 104 (by decide)]; exact w6
    · rw [YX 97 (by decide)]; exact w7
  have QY : WQc Y := by
    unfold WQc
    rw [YJ 104 (by decide) (by decide) (by decide), YJ 105 (by decide) (by decide) (by decide), YJ 106 (by decide) (by decide) (by decide)]
    exact Q
  have ZY : ZO Y := by
    unfold ZO
    rw [YJ 94 (by decide) (by decide) (by decide), YJ 101 (by decide) (by decide) (by decide), YJ 102 (by decide) (by decide) (by decide)]
    exact Z
  have RY : RD Y s := RD_c (J := J) (fun c hc => YJ c (by omega) (by omega) (by omega)) R
  have ow3 : owz (d + 3) = 5 := if_pos (by omega)
  have o3 := OAr_3 hd
  have DY : DN h I Y d s := by
    refine ⟨⟨fun y y0 y1 => ?_, fun q q0 q1 => ?_⟩, ⟨?_, fun q q0 q1 => ?_⟩, ?_, ?_, ?_⟩
    · unfold lcI kc BL
      rw [YJ 101 (by decide) (by decide) (by decide), YJ 102 (by decide) (by decide) (by decide), YJ 103 (by decide) (by decide) (by decide), YJ 107 (by decide) (by decide) (by decide)]
      exact D.1.1 y y0 y1
    · rw [YJ 109 (by decide) (by decide) (by decide), YJ 110 (by decide) (by decide) (by decide)]
      exact D.1.2 q q0 q1
    · rw [Y8]; exact D.2.1.1
    · rw [Y8] at q1
      obtain ⟨b, hb, Cb⟩ := D.2.1.2 q q0 q1
      refine ⟨b, hb, PC_P T.1 T.2.2.2.1 (by omega) (fun o _ _ => ?_) ?_ Cb⟩
      · rw [YJ 96 (by decide) (by decide) (by decide), YJ 97 (by decide) (by decide) (by decide)]
        exact ⟨rfl, fun _ _ _ => rfl⟩
      · have oq := hO (20 * s + q)
        refine ⟨?_, fun k k0 k1 => ?_⟩
        · rw [YX 111 (by decide)]
          exact (oq 0 (by omega) (by omega) (by omega)).1
        · rw [YX 112 (by decide), YX 113 (by decide), YX 114 (by decide)]
          exact (oq k (by omega) (by omega) (by omega)).2 k0 k1
    · unfold NS
      rw [YJ 120 (by decide) (by decide) (by decide), YJ 121 (by decide) (by decide) (by decide), YJ 122 (by decide) (by decide) (by decide)]
      exact D.2.2.1
    · rw [YJ 104 (by decide) (by decide) (by decide)]; exact D.2.2.2.1
    · unfold DD NS
      rw [YJ 104 (by decide) (by decide) (by decide), YJ 105 (by decide) (by decide) (by decide), YJ 106 (by decide) (by decide) (by decide), YJ 107 (by decide) (by decide) (by decide), YJ 120 (by decide) (by decide) (by decide), YJ 121 (by decide) (by decide) (by decide), YJ 122 (by decide) (by decide) (by decide)]
      exact D.2.2.2.2
  obtain ⟨I0, e0, D0, R0, f0⟩ := k40 (h := h) (I := I) (J := Y) (d := d) (s := s) (a := 1) (x := m) hd L L4 W DY QY TY ZY RY hs
  have D1 := DN_dO (a := 1) (x := m) (o := p) hd W TY hs D0 R0 (fun q => by omega) (fun q => by omega) (by decide)
  have D2 := DN_109 (p := m) (v := 1) W hd (WT_dO TY hs) hs D1
  rw [← hp] at D2
  have eX : dO X s 1 p = rowU (dO Y s 1 p) 108 (up1 (J 108) s (m + 1)) := by
    rw [← dO_108, hY]
    congr 1
    funext c
    by_cases q : c = 108
    · subst q; rw [rowU_eq, h8]
    · rw [rowU_ne q, rowU_ne q]
  have y9 : dO Y s 1 p 109 = J 109 := by rw [dO_f (by decide), YJ 109 (by decide) (by decide) (by decide)]
  rw [y9] at D2
  obtain ⟨G, hG⟩ : ∃ G, G = rowU (dO Y s 1 p) 109 (up1 (J 109) p 1) := ⟨_, rfl⟩
  have eG : rowU (dO X s 1 p) 109 (up1 (J 109) p 1) = rowU G 108 (up1 (J 108) s (m + 1)) := by
    rw [eX, hG, rowU_cm (by decide)]
  rw [← hG] at D2
  rw [eG]
  obtain ⟨E, hE⟩ : ∃ E, E = zu2 (adE I0 d 1 m) (d + 4) m 1 := ⟨_, rfl⟩
  rw [← hE] at D2
  have Ei : I d 5 = m := by rw [D.2.1.1, hmm]
  have E5 : E d 5 = m := by
    rw [hE, zu2_row, rowU_ne (by omega), adE_d, up1_ne (by decide), D0.2.1.1, dJ_f (a := 108) (by decide), Y8, hmm]
  have EI : ∀ c, (c < d ∨ d + 19 < c ∨ (d + 6 ≤ c ∧ c ≤ d + 10)) → E c = I c := fun c hc => by rw [hE, zu2_row, rowU_ne (by omega), adE_f (by omega) (by omega), f0 c hc]
  have a140 := C.2.1
  have X1 : XT h (hSR h (d + 3) m (some a)) 0 0 := XT_s (XT_r h) o3
  have W1 : OWN (hSR h (d + 3) m (some a)) := OWN_s W o3 ⟨a140.1, by rw [ow3]; omega⟩ (by rw [if_pos (by omega)]; exact C.1) F
  have G8 : G 108 s = m := by rw [hG, rowU_ne (by decide), dO_f (by decide), Y8, hmm]
  have Gf : ∀ c, c ≠ 109 → (c < 101 ∨ (107 < c ∧ c < 110) ∨ (110 < c ∧ c < 120) ∨ 122 < c) → G c = Y c := fun c h0 h1 => by rw [hG, rowU_ne h0, dO_f h1]
  have zI : ∀ c, c ≠ d → zu2 E d 5 (m + 1) c = E c := fun c hc => by rw [zu2_row, rowU_ne hc]
  have zd : zu2 E d 5 (m + 1) d = up1 (E d) 5 (m + 1) := by rw [zu2_row, rowU_eq]
  have K8 : ∀ c, c ≠ 108 → rowU G 108 (up1 (J 108) s (m + 1)) c = G c := fun c hc => rowU_ne hc
  have K88 : rowU G 108 (up1 (J 108) s (m + 1)) 108 s = m + 1 := by rw [rowU_eq, up1_eq]
  refine ⟨hSR h (d + 3) m (some a), zu2 E d 5 (m + 1), ?_, ⟨⟨fun y y0 y1 => ?_, fun q q0 q1 => ?_⟩, ⟨?_, fun q q0 q1 => ?_⟩, ?_, ?_, ?_⟩, ?_, W1, X1, fun x k hx hn => ?_, fun c hc => ?_⟩
  · have e5b : zu2 (adE I0 d 1 m) (d + 4) m 1 d 5 = m := by rw [← hE]; exact E5
    rw [b42_0 L, Ei, if_pos hm, b42_8 L, e0, caln_v, b42_12 L C.1 ⟨by omega, hm⟩ (LX_sR (by omega) L) (by rw [e5b]; omega), e5b, ← hE]
  · rw [zI _ (by omega), zI _ (by omega)]
    unfold lcI kc BL
    rw [K8 101 (by decide), K8 102 (by decide), K8 103 (by decide), K8 107 (by decide)]
    exact D2.1.1 y y0 y1
  · rw [zI _ (by omega), zI _ (by omega), K8 109 (by decide), K8 110 (by decide)]
    exact D2.1.2 q q0 q1
  · rw [zd, up1_eq, K88]
  · rw [K88] at q1
    have pcK : ∀ b r, 0 ≤ r → r < 40 → (∀ c, b ≤ c → c ≤ b + 5 → zu2 E d 5 (m + 1) c = I c) → b ≠ d + 3 → PC h I Y b r → PC (hSR h (d + 3) m (some a)) (zu2 E d 5 (m + 1)) (rowU G 108 (up1 (J 108) s (m + 1))) b r := by
      intro b r r0 r1 hz hb Cb
      have c2 := PC_c TY.1 TY.2.2.2.1 ⟨r0, r1⟩ (K := rowU G 108 (up1 (J 108) s (m + 1))) ((K8 96 (by decide)).trans (Gf 96 (by decide) (by decide))) ((K8 97 (by decide)).trans (Gf 97 (by decide) (by decide))) ((K8 111 (by decide)).trans (Gf 111 (by decide) (by decide))) ((K8 112 (by decide)).trans (Gf 112 (by decide) (by decide))) ((K8 113 (by decide)).trans (Gf 113 (by decide) (by decide))) ((K8 114 (by decide)).trans (Gf 114 (by decide) (by decide))) Cb
      rw [PC_I (I := I) (a := b) hz]
      exact ⟨LX_sR hb c2.1, c2.2⟩
    by_cases hq : q = m
    · subst hq
      refine ⟨a, by rw [hR_sR, if_pos ⟨rfl, rfl⟩], ?_⟩
      rw [← hp]
      refine pcK a p (by omega) (by omega) (fun c c0 c1 => by rw [zI c (by omega), EI c (by omega)]) (by omega) ?_
      exact PC_c TX.1 TX.2.2.2.1 (by omega) (YX 96 (by decide)) (YX 97 (by decide)) (YX 111 (by decide)) (YX 112 (by decide)) (YX 113 (by decide)) (YX 114 (by decide)) C
    · obtain ⟨b, hb, Cb⟩ := DY.2.1.2 q q0 (by rw [Y8]; omega)
      have b140 := Cb.2.1.1
      refine ⟨b, by rw [hR_sR, if_neg (fun t => hq t.2)]; exact hb, ?_⟩
      exact pcK b (20 * s + q) (by omega) (by omega) (fun c c0 c1 => by rw [zI c (by omega), EI c (by omega)]) (by omega) Cb
  · unfold NS
    rw [K8 120 (by decide), K8 121 (by decide), K8 122 (by decide), NO_I (I := E) (n := d + 11) (fun c c0 c1 => zI c (by omega))]
    exact D2.2.2.1
  · rw [zd, up1_ne (by decide), K8 104 (by decide)]
    exact D2.2.2.2.1
  · have dd := DD_I (K := zu2 E d 5 (m + 1)) W hd (fun c hc => zI c (by omega)) D2.2.2.2.2
    unfold DD NS at dd ⊢
    rw [K8 104 (by decide), K8 105 (by decide), K8 106 (by decide), K8 107 (by decide), K8 120 (by decide), K8 121 (by decide), K8 122 (by decide)]
    intro k k0 k1
    have q := dd k k0 k1
    refine ⟨q.1, q.2.1, q.2.2.1, q.2.2.2.1, fun q4 => ?_⟩
    obtain ⟨b, hb, hNS⟩ := q.2.2.2.2 q4
    exact ⟨b, by rw [hR_sR, if_neg (fun t => by have := t.1; omega)]; exact hb, hNS⟩
  · refine RD_dO (J := Y) (a := 1) (o := p) TY hs R0 (by decide) (fun c c1 c9 c8 => ?_) (fun y => ?_) (fun q => ?_)
    · rw [K8 c c8, hG, rowU_ne c9]
    · rw [K8 101 (by decide), hG, rowU_ne (by decide), if_neg (by omega), if_neg (by omega)]
      rw [show dO Y s 1 p 101 = dJ Y s 101 from dA_f (by decide)]
    · rw [K8 109 (by decide), hG, rowU_eq]
      have dj9 : dJ Y s 109 = J 109 := by rw [dJ_f (by decide), YJ 109 (by decide) (by decide) (by decide)]
      rw [dj9]
      by_cases e : p = q
      · subst e; rw [up1_eq, if_pos ⟨rfl, rfl⟩]
      · rw [up1_ne (fun r => e r.symm), if_neg (fun r => e r.2), if_neg (by omega)]
  · rw [hR_sR, if_neg (fun t => hn t.1)]
  · rw [zI c (by omega), EI c hc]
