/-! ===== the class (19): writes and unlinks ===== -/
theorem WT_dJ {J : Nat → Int → Int} {s : Int} (T : WT J) (hs : s = 0 ∨ s = 1) : WT (dJ J s) := by
  have h := WT_dO (a := 0) (o := 0) T hs
  have hb := T.2.2.2.2.2.1
  have e : ∀ c, c < 104 ∨ 107 < c → dO J s 0 0 c = dJ J s c := fun c hc => dA_f hc
  obtain ⟨w1, w2, w3, w4, w5, w6, w7⟩ := h
  refine ⟨?_, ⟨?_, ?_, ?_⟩, ?_, ?_, ?_, ?_, ?_⟩
  · rw [WB_e (by rw [e 94 (by decide)]) (e 95 (by decide)) (e 96 (by decide)) (e 97 (by decide)) (e 98 (by decide))] at w1
    exact w1
  · have := w2.1
    rw [e 103 (by decide)] at this
    exact this
  · intro j
    have : dJ J s 107 = J 107 := dJ_f (by decide)
    rw [this]
    exact T.2.1.2.1 j
  · have := w2.2.2
    rw [e 101 (by decide)] at this
    exact this
  · intro j
    have := w3 j
    rw [e 118 (by decide)] at this
    exact this
  · rw [WK_e (by rw [e 94 (by decide)]) (e 108 (by decide)) (e 111 (by decide)) (e 112 (by decide)) (e 113 (by decide))] at w4
    exact w4
  · rw [e 109 (by decide)] at w5
    exact w5
  · intro u hu
    by_cases q : u = s
    · subst q
      have := dJ_104 (hb u hu)
      omega
    · rw [dJ_104n q]
      exact hb u hu
  · rw [e 97 (by decide)] at w7
    exact w7
theorem DN_dO {h : HP} {I0 J : Nat → Int → Int} {d : Nat} {s a x o : Int} (hd : d = 11 ∨ d = 43) (W : OWN h) (T : WT J) (hs : s = 0 ∨ s = 1) (D : DN h I0 (dJ J s) d s) (R : RD (dJ J s) s) (h1 : a = 0 ∨ a = 2 → x = o) (h2 : a = 1 ∨ a = 3 → x = o - 20 * s) (h4 : a ≠ 4) : DN h (adE I0 d a x) (dO J s a o) d s := by
  have hb := dJ_104 (T.2.2.2.2.2.1 s hs)
  have q := DN_ad (a := a) (x := x) (o := o) hd W (WT_dJ T hs) D (fun y y0 y1 => RD_b R hb.1 ⟨y0, by omega⟩) hs hb.2
  have e : dO J s a o 104 s = dJ J s 104 s + 1 := dO_104e
  exact ⟨q.1, q.2.1, q.2.2.1, q.2.2.2.1, by rw [e]; exact DD_ad D.2.2.2.1 q.2.2.2.2 h1 h2 h4⟩
/-- what a deed beside changes of the disk -/
theorem RD_dO {J K : Nat → Int → Int} {s a o : Int} (T : WT J) (hs : s = 0 ∨ s = 1) (R : RD (dJ J s) s) (ha : a ≠ 4) (hf : ∀ c, c ≠ 101 → c ≠ 109 → c ≠ 108 → K c = dO J s a o c)
    (h101 : ∀ y, K 101 (120 * s + y) = if a = 0 ∧ o = y then dJ J s 104 s + 2 else if a = 2 ∧ o = y then 0 else dJ J s 101 (120 * s + y)) (h109 : ∀ p, K 109 p = if a = 1 ∧ o = p then 1 else if a = 3 ∧ o = p then 0 else dJ J s 109 p) : RD K s := by
  have hb := dJ_104 (T.2.2.2.2.2.1 s hs)
  obtain ⟨r4, r5, r6, r7⟩ := dA_r (J := dJ J s) (s := s) (a := a) (o := o)
  have ho : dO J s a o = dA (dJ J s) s a o := rfl
  refine RD_ad (J := dJ J s) (a := a) (o := o) hb.1 R ?_ (fun k k0 k1 => ?_) ?_ ?_ ?_ ha h101 h109 (fun c c0 c1 => ?_)
  · rw [hf 104 (by decide) (by decide) (by decide), ho, r4, up1_eq]
  · rw [hf 105 (by decide) (by decide) (by decide), hf 106 (by decide) (by decide) (by decide), ho, r5, r6, up1_ne (by omega), up1_ne (by omega)]
    exact ⟨rfl, rfl⟩
  · rw [hf 105 (by decide) (by decide) (by decide), hf 106 (by decide) (by decide) (by decide), ho, r5, r6, up1_eq, up1_eq]
    exact ⟨rfl, rfl⟩
  · rw [hf 102 (by decide) (by decide) (by decide), ho, dA_f (by decide)]
  · rw [hf 110 (by decide) (by decide) (by decide), ho, dA_f (by decide)]
  · rw [hf c (by omega) (by omega) (by omega), ho, dA_f (by omega)]
noncomputable def wLo (J : Nat → Int → Int) (s o : Int) : Nat → Int → Int := rowU (dO J s 0 o) 101 (up1 (dO J s 0 o 101) (120 * s + o) (2 + dJ J s 104 s))
theorem k41 {h : HP} {I J : Nat → Int → Int} {d : Nat} {s o : Int} (hd : d = 11 ∨ d = 43) (L : LX 3 h d) (L4 : LX 4 h (d + 11)) (W : OWN h) (D : DN h I J d s) (Q : WQc J) (T : WT J) (Z : ZO J) (R : RD J s) (hs : s = 0 ∨ s = 1) (ho : 0 ≤ o ∧ o < 100) :
    ∃ I1, Go 41 0 [.inr (.inl (some d)), .inl o] [] (mI h I) = some (mI h I1, .inl none) ∧ DN h I1 (wLo J s o) d s ∧ RD (wLo J s o) s ∧ ∀ c, c < d ∨ d + 19 < c ∨ (d + 6 ≤ c ∧ c ≤ d + 10) → I1 c = I c := by
  obtain ⟨I0, e0, D0, R0, f0⟩ := k40 (h := h) (I := I) (J := J) (d := d) (s := s) (a := 0) (x := o) hd L L4 W D Q T Z R hs
  have hb := dJ_104 (T.2.2.2.2.2.1 s hs)
  have D1 := DN_dO (a := 0) (x := o) (o := o) hd W T hs D0 R0 (fun _ => rfl) (fun q => by omega) (by decide)
  have D2 := DN_101 (o := o) (v := 1) (x := 2 + dJ J s 104 s) W hd (WT_dO T hs) hs D1 (by
    unfold lcI BL
    rw [rowU_eq, up1_eq, rowU_ne (by decide), rowU_ne (by decide), if_neg (by omega), if_neg]
    rintro (q | q)
    · omega
    · have e7 : dO J s 0 o 107 (30 * s + (2 + dJ J s 104 s) - 2) = 0 := by
        show dA (dJ J s) s 0 o 107 _ = 0
        rw [dA_r.2.2.2, show 30 * s + (2 + dJ J s 104 s) - 2 = 30 * s + dJ J s 104 s by omega, up1_eq]
      rw [e7] at q
      omega)
  have ho1 : dO J s 0 o 101 = dJ J s 101 := dA_f (by decide)
  have ho9 : dO J s 0 o 109 = dJ J s 109 := dA_f (by decide)
  refine ⟨_, by rw [b41_0 L, e0, caln_v, b41_4 L ho], D2, ?_, fun c hc => ?_⟩
  · refine RD_dO (a := 0) (o := o) T hs R0 (by decide) (fun c c1 _ _ => rowU_ne c1) (fun y => ?_) (fun p => ?_)
    · unfold wLo
      rw [rowU_eq, ho1]
      by_cases q : o = y
      · subst q; rw [up1_eq, if_pos ⟨rfl, rfl⟩]; omega
      · rw [up1_ne (by omega), if_neg (fun r => q r.2), if_neg (fun r => q r.2)]
    · unfold wLo
      rw [rowU_ne (by decide), ho9, if_neg (by omega), if_neg (by omega)]
  · rw [zu2_row, rowU_ne (by omega), adE_f (by omega) (by omega), f0 c hc]
noncomputable def uLo (J : Nat → Int → Int) (s o : Int) : Nat → Int → Int := rowU (dO J s 2 o) 101 (up1 (dO J s 2 o 101) (120 * s + o) 0)
theorem k43 {h : HP} {I J : Nat → Int → Int} {d : Nat} {s o : Int} (hd : d = 11 ∨ d = 43) (L : LX 3 h d) (L4 : LX 4 h (d + 11)) (W : OWN h) (D : DN h I J d s) (Q : WQc J) (T : WT J) (Z : ZO J) (R : RD J s) (hs : s = 0 ∨ s = 1) (ho : 0 ≤ o ∧ o < 100) :
    ∃ I1, Go 43 0 [.inr (.inl (some d)), .inl o] [] (mI h I) = some (mI h I1, .inl none) ∧ DN h I1 (uLo J s o) d s ∧ RD (uLo J s o) s ∧ ∀ c, c < d ∨ d + 19 < c ∨ (d + 6 ≤ c ∧ c ≤ d + 10) → I1 c = I c := by
  obtain ⟨I0, e0, D0, R0, f0⟩ := k40 (h := h) (I := I) (J := J) (d := d) (s := s) (a := 2) (x := o) hd L L4 W D Q T Z R hs
  have D1 := DN_dO (a := 2) (x := o) (o := o) hd W T hs D0 R0 (fun _ => rfl) (fun q => by omega) (by decide)
  have D2 := DN_101 (o := o) (v := 0) (x := 0) W hd (WT_dO T hs) hs D1 (by
    unfold lcI
    rw [rowU_eq, up1_eq, if_pos rfl])
  have ho1 : dO J s 2 o 101 = dJ J s 101 := dA_f (by decide)
  have ho9 : dO J s 2 o 109 = dJ J s 109 := dA_f (by decide)
  refine ⟨_, by rw [b43_0 L, e0, caln_v, b43_4 L ho], D2, ?_, fun c hc => ?_⟩
  · refine RD_dO (a := 2) (o := o) T hs R0 (by decide) (fun c c1 _ _ => rowU_ne c1) (fun y => ?_) (fun p => ?_)
    · unfold uLo
      rw [rowU_eq, ho1, if_neg (by omega)]
      by_cases q : o = y
      · subst q; rw [up1_eq, if_pos ⟨rfl, rfl⟩]
      · rw [up1_ne (by omega), if_neg (fun r => q r.2)]
    · unfold uLo
      rw [rowU_ne (by decide), ho9, if_neg (by omega), if_neg (by omega)]
  · rw [zu2_row, rowU_ne (by omega), adE_f (by omega) (by omega), f0 c hc]
noncomputable def uPa (J : Nat → Int → Int) (s p : Int) : Nat → Int → Int := rowU (dO J s 3 (20 * s + p)) 109 (up1 (dO J s 3 (20 * s + p) 109) (20 * s + p) 0)
theorem k44 {h : HP} {I J : Nat → Int → Int} {d : Nat} {s p : Int} (hd : d = 11 ∨ d = 43) (L : LX 3 h d) (L4 : LX 4 h (d + 11)) (W : OWN h) (D : DN h I J d s) (Q : WQc J) (T : WT J) (Z : ZO J) (R : RD J s) (hs : s = 0 ∨ s = 1) (hp : 0 ≤ p ∧ p < 20) :
    ∃ I1, Go 44 0 [.inr (.inl (some d)), .inl p] [] (mI h I) = some (mI h I1, .inl none) ∧ DN h I1 (uPa J s p) d s ∧ RD (uPa J s p) s ∧ ∀ c, c < d ∨ d + 19 < c ∨ (d + 6 ≤ c ∧ c ≤ d + 10) → I1 c = I c := by
  obtain ⟨I0, e0, D0, R0, f0⟩ := k40 (h := h) (I := I) (J := J) (d := d) (s := s) (a := 3) (x := p) hd L L4 W D Q T Z R hs
  have D1 := DN_dO (a := 3) (x := p) (o := 20 * s + p) hd W T hs D0 R0 (fun q => by omega) (fun q => by omega) (by decide)
  have D2 := DN_109 (p := p) (v := 0) W hd (WT_dO T hs) hs D1
  have ho1 : dO J s 3 (20 * s + p) 101 = dJ J s 101 := dA_f (by decide)
  have ho9 : dO J s 3 (20 * s + p) 109 = dJ J s 109 := dA_f (by decide)
  refine ⟨_, by rw [b44_0 L, e0, caln_v, b44_4 L hp], D2, ?_, fun c hc => ?_⟩
  · refine RD_dO (a := 3) (o := 20 * s + p) T hs R0 (by decide) (fun c _ c1 _ => rowU_ne c1) (fun y => ?_) (fun q => ?_)
    · unfold uPa
      rw [rowU_ne (by decide), ho1, if_neg (by omega), if_neg (by omega)]
    · unfold uPa
      rw [rowU_eq, ho9, if_neg (by omega)]
      by_cases e : 20 * s + p = q
      · subst e; rw [up1_eq, if_pos ⟨rfl, rfl⟩]
      · rw [up1_ne (fun r => e r.symm), if_neg (fun r => e r.2)]
  · rw [zu2_row, rowU_ne (by omega), adE_f (by omega) (by omega), f0 c hc]
/-- keepAll -/
theorem k49 {h : HP} {I J : Nat → Int → Int} {d : Nat} {s : Int} {v1 : MV} (hd : d = 11 ∨ d = 43) (L : LX 3 h d) (L4 : LX 4 h (d + 11)) (W : OWN h) (D : DN h I J d s) (Q : WQc J) (T : WT J) (Z : ZO J) (R : RD J s) (hs : s = 0 ∨ s = 1) :
    ∃ I1, Go 49 0 [.inr (.inl (some d)), v1] [] (mI h I) = some (mI h I1, .inl (some (.inl (J 104 s)))) ∧ DN h I1 (sY J s) d s ∧ RD (sY J s) s ∧ ∀ c, c < d ∨ d + 19 < c ∨ (d + 6 ≤ c ∧ c ≤ d + 10) → I1 c = I c := by
  obtain ⟨I1, e1, f1, f2⟩ := k51s (h := h) (I := I) (J := J) (d := d) (s := s) (v2 := vU) (v3 := vU) (v4 := vU) (v5 := vU) hd L L4 W D Q T Z R hs
  exact ⟨I1, by rw [b49_0 L, e1, caln_r, b49_6, D.2.2.2.1], f1, RD_sY, f2⟩
