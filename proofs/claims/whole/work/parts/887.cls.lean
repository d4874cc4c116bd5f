/-! ===== the class (17): a deed more ===== -/
def DNk (h : HP) (I J : Nat → Int → Int) (d : Nat) (s n : Int) : Prop :=
  ((∀ o, 0 ≤ o → o < 100 → I (d + 1) o = lcI J s o ∧ I (d + 2) o = kc J s o) ∧ (∀ p, 0 ≤ p → p < 20 → I (d + 4) p = J 109 (20 * s + p) ∧ I (d + 5) p = J 110 (20 * s + p))) ∧
  (I d 5 = J 108 s ∧ ∀ p, 0 ≤ p → p < J 108 s → ∃ a, hR h (d + 3) p = some a ∧ PC h I J a (20 * s + p)) ∧
  NS I J (d + 11) s 0 ∧ I d 12 = J 104 s ∧ DD h I J d s n
theorem lv_b {J : Nat → Int → Int} {s o : Int} : ∀ n : Nat, 0 ≤ lv J s o n ∧ lv J s o n ≤ n + 1
  | 0 => by
    unfold lv
    split <;> omega
  | n + 1 => by
    have ih := lv_b (J := J) (s := s) (o := o) n
    unfold lv
    split
    · omega
    · split <;> omega
theorem RD_b {J : Nat → Int → Int} {s : Int} (R : RD J s) (hn : 0 ≤ J 104 s) {o : Int} (ho : 0 ≤ o ∧ o < 120) : 0 ≤ J 101 (120 * s + o) ∧ J 101 (120 * s + o) ≤ J 104 s + 1 := by
  have q := lv_b (J := J) (s := s) (o := o) (J 104 s).toNat
  rw [R.1 o ho.1 ho.2]
  omega
theorem RD_sY {J : Nat → Int → Int} {s : Int} : RD (sY J s) s := by
  have y1 : sY J s 101 = s1 J s := by
    unfold sY sJ
    rw [rowU_ne (by decide), kN_f (by decide) (by decide) (by decide), rowU_ne (by decide), rowU_eq]
  have y2 : sY J s 102 = s2 J s := by
    unfold sY sJ
    rw [rowU_ne (by decide), kN_f (by decide) (by decide) (by decide), rowU_ne (by decide), rowU_ne (by decide), rowU_ne (by decide), rowU_eq]
  have y10 : sY J s 110 = fillR (J 110) (20 * s) (20 * s + 20) (J 109) := by
    unfold sY sJ
    rw [rowU_ne (by decide), kN_f (by decide) (by decide) (by decide), rowU_eq]
  rw [RD, sY_104]
  refine ⟨fun o o0 o1 => ?_, fun p p0 p1 => ?_, ?_⟩
  · show sY J s 101 (120 * s + o) = if sY J s 102 (120 * s + o) = 0 then 0 else 1
    rw [y1, y2]
    unfold s1
    rw [fillR_in (by omega)]
  · show sY J s 109 p = sY J s 110 p
    rw [y10, fillR_in (by omega), sY_f (a := 109) (by omega)]
  · have := CN_kN (I := sJ J s) (s := s) (n := 0)
    show CN (sY J s) s 0
    unfold sY
    unfold CN nC at this ⊢
    rw [rowU_ne (by decide), rowU_ne (by decide), rowU_ne (by decide), rowU_ne (by decide), rowU_ne (by decide), rowU_ne (by decide), rowU_ne (by decide), rowU_ne (by decide)]
    exact this
/-- a deed is added in the class -/
def adE (I : Nat → Int → Int) (d : Nat) (a x : Int) : Nat → Int → Int := rowU (rowU (rowU (rowU I (d + 16) (up1 (I (d + 16)) (I d 12) a)) (d + 17) (up1 (I (d + 17)) (I d 12) x)) (d + 18) (up1 (I (d + 18)) (I d 12) 0)) d (up1 (I d) 12 (I d 12 + 1))
theorem adE_f {I : Nat → Int → Int} {d c : Nat} {a x : Int} (h0 : c ≠ d) (h : c < d + 16 ∨ d + 18 < c) : adE I d a x c = I c := by
  unfold adE
  rw [rowU_ne h0, rowU_ne (by omega), rowU_ne (by omega), rowU_ne (by omega)]
theorem adE_d {I : Nat → Int → Int} {d : Nat} {a x : Int} : adE I d a x d = up1 (I d) 12 (I d 12 + 1) := by
  unfold adE
  rw [rowU_eq]
theorem adE_16 {I : Nat → Int → Int} {d : Nat} {a x : Int} : adE I d a x (d + 16) = up1 (I (d + 16)) (I d 12) a ∧ adE I d a x (d + 17) = up1 (I (d + 17)) (I d 12) x ∧ adE I d a x (d + 18) = up1 (I (d + 18)) (I d 12) 0 := by
  unfold adE
  refine ⟨?_, ?_, ?_⟩
  · rw [rowU_ne (by omega), rowU_ne (by omega), rowU_ne (by omega), rowU_eq]
  · rw [rowU_ne (by omega), rowU_ne (by omega), rowU_eq]
  · rw [rowU_ne (by omega), rowU_eq]
theorem dA_f {J : Nat → Int → Int} {s a o : Int} {c : Nat} (h : c < 104 ∨ 107 < c) : dA J s a o c = J c := by
  unfold dA
  rw [rowU_ne (by omega), rowU_ne (by omega), rowU_ne (by omega), rowU_ne (by omega)]
theorem dA_r {J : Nat → Int → Int} {s a o : Int} : dA J s a o 104 = up1 (J 104) s (J 104 s + 1) ∧ dA J s a o 105 = up1 (J 105) (30 * s + J 104 s) a ∧ dA J s a o 106 = up1 (J 106) (30 * s + J 104 s) o ∧ dA J s a o 107 = up1 (J 107) (30 * s + J 104 s) 0 := by
  unfold dA
  refine ⟨?_, ?_, ?_, ?_⟩
  · rw [rowU_eq]
  · rw [rowU_ne (by decide), rowU_ne (by decide), rowU_ne (by decide), rowU_eq]
  · rw [rowU_ne (by decide), rowU_ne (by decide), rowU_eq]
  · rw [rowU_ne (by decide), rowU_eq]
theorem lcI_dA {J : Nat → Int → Int} {s a o y : Int} (hb : 0 ≤ J 101 (120 * s + y) ∧ J 101 (120 * s + y) ≤ J 104 s + 1) (hn : 0 ≤ J 104 s) : lcI (dA J s a o) s y = lcI J s y := by
  unfold lcI BL
  rw [dA_f (c := 101) (by decide), dA_f (c := 103) (by decide), dA_r.2.2.2]
  by_cases q : J 101 (120 * s + y) = 0
  · rw [if_pos q, if_pos q]
  · rw [if_neg q, if_neg q, up1_ne (by omega)]
theorem PC_c {h : HP} {I J K : Nat → Int → Int} {a : Nat} {p : Int} (W : WB J) (V : WK J) (hp : 0 ≤ p ∧ p < 40) (h6 : K 96 = J 96) (h7 : K 97 = J 97) (h1 : K 111 = J 111) (h2 : K 112 = J 112) (h3 : K 113 = J 113) (h4 : K 114 = J 114) (C : PC h I J a p) : PC h I K a p :=
  PC_P W V hp (fun o _ _ => by rw [h6, h7]; exact ⟨rfl, fun _ _ _ => rfl⟩) ⟨by rw [h1], fun k _ _ => by rw [h2, h3, h4]; exact ⟨rfl, rfl, rfl⟩⟩ C
theorem DN_ad {h : HP} {I J : Nat → Int → Int} {d : Nat} {s a x o : Int} (hd : d = 11 ∨ d = 43) (W : OWN h) (T : WT J) (D : DN h I J d s) (R : ∀ y, 0 ≤ y → y < 100 → 0 ≤ J 101 (120 * s + y) ∧ J 101 (120 * s + y) ≤ J 104 s + 1) (hs : s = 0 ∨ s = 1) (hk : J 104 s < 30) : DNk h (adE I d a x) (dA J s a o) d s (J 104 s) := by
  have hk0 := (T.2.2.2.2.2.1 s hs).1
  have e12 := D.2.2.2.1
  obtain ⟨r4, r5, r6, r7⟩ := dA_r (J := J) (s := s) (a := a) (o := o)
  obtain ⟨i16, i17, i18⟩ := adE_16 (I := I) (d := d) (a := a) (x := x)
  refine ⟨⟨fun y y0 y1 => ?_, fun p p0 p1 => ?_⟩, ⟨?_, fun p p0 p1 => ?_⟩, ?_, ?_, fun k k0 k1 => ?_⟩
  · rw [adE_f (by omega) (by omega), adE_f (by omega) (by omega), lcI_dA (R y y0 y1) hk0]
    unfold kc
    rw [dA_f (by decide), dA_f (by decide)]
    exact D.1.1 y y0 y1
  · rw [adE_f (by omega) (by omega), adE_f (by omega) (by omega), dA_f (by decide), dA_f (by decide)]
    exact D.1.2 p p0 p1
  · rw [adE_d, up1_ne (by decide), dA_f (by decide)]
    exact D.2.1.1
  · rw [dA_f (c := 108) (by decide)] at p1
    have hm := T.2.2.2.1.1 s hs
    obtain ⟨b, hb, C⟩ := D.2.1.2 p p0 p1
    have hb1 := C.2.1.1
    refine ⟨b, hb, ?_⟩
    rw [PC_I (I := I) (a := b) (fun c c0 c1 => adE_f (by omega) (by omega))]
    exact PC_c T.1 T.2.2.2.1 (by omega) (dA_f (by decide)) (dA_f (by decide)) (dA_f (by decide)) (dA_f (by decide)) (dA_f (by decide)) (dA_f (by decide)) C
  · unfold NS
    rw [dA_f (c := 120) (by decide), dA_f (c := 121) (by decide), dA_f (c := 122) (by decide), NO_I (I := I) (n := d + 11) (fun c c0 c1 => adE_f (by omega) (by omega))]
    exact D.2.2.1
  · rw [adE_d, up1_eq, r4, up1_eq, e12]
  · have q := D.2.2.2.2 k k0 k1
    have ne : 30 * s + k ≠ 30 * s + J 104 s := by omega
    rw [i16, i17, i18, r5, r6, r7, e12, up1_ne ne, up1_ne ne, up1_ne ne, up1_ne (show k ≠ J 104 s by omega), up1_ne (show k ≠ J 104 s by omega), up1_ne (show k ≠ J 104 s by omega)]
    refine ⟨q.1, q.2.1, q.2.2.1, q.2.2.2.1, fun q4 => ?_⟩
    obtain ⟨b, hb, hNS⟩ := q.2.2.2.2 q4
    have o3 : 140 ≤ b := (W.2.1 _ _ _ (OAr_19 hd) hb).1.1
    refine ⟨b, hb, ?_⟩
    unfold NS
    rw [dA_f (c := 120) (by decide), dA_f (c := 121) (by decide), dA_f (c := 122) (by decide), NO_I (I := I) (n := b) (fun c c0 c1 => adE_f (by omega) (by omega))]
    exact hNS
/-- and the deed itself -/
theorem DD_ad {h : HP} {I J : Nat → Int → Int} {d : Nat} {s a x o : Int} (e12 : I d 12 = J 104 s) (D : DD h (adE I d a x) (dA J s a o) d s (J 104 s)) (h1 : a = 0 ∨ a = 2 → x = o) (h2 : a = 1 ∨ a = 3 → x = o - 20 * s) (h4 : a ≠ 4) : DD h (adE I d a x) (dA J s a o) d s (J 104 s + 1) := by
  obtain ⟨r4, r5, r6, r7⟩ := dA_r (J := J) (s := s) (a := a) (o := o)
  obtain ⟨i16, i17, i18⟩ := adE_16 (I := I) (d := d) (a := a) (x := x)
  intro k k0 k1
  by_cases hk : k = J 104 s
  · rw [i16, i17, i18, r5, r6, r7, e12, hk, up1_eq, up1_eq, up1_eq, up1_eq, up1_eq, up1_eq]
    exact ⟨rfl, fun _ => rfl, h1, h2, fun q => absurd q h4⟩
  · exact D k k0 (by omega)
/-- the disk before a deed: synced, if there was no room -/
theorem k40 {h : HP} {I J : Nat → Int → Int} {d : Nat} {s a x : Int} (hd : d = 11 ∨ d = 43) (L : LX 3 h d) (L4 : LX 4 h (d + 11)) (W : OWN h) (D : DN h I J d s) (Q : WQc J) (T : WT J) (Z : ZO J) (R : RD J s) (hs : s = 0 ∨ s = 1) :
    ∃ I0, Go 40 0 [.inr (.inl (some d)), .inl a, .inl x] [] (mI h I) = some (mI h (adE I0 d a x), .inl none) ∧ DN h I0 (dJ J s) d s ∧ RD (dJ J s) s ∧ ∀ c, c < d ∨ d + 19 < c ∨ (d + 6 ≤ c ∧ c ≤ d + 10) → I0 c = I c := by
  have h30 := T.2.2.2.2.2.1 s hs
  have e12 := D.2.2.2.1
  have fin : ∀ I0 : Nat → Int → Int, 0 ≤ I0 d 12 ∧ I0 d 12 < 30 → Go 40 8 [.inr (.inl (some d)), .inl a, .inl x] [] (mI h I0) = some (mI h (adE I0 d a x), .inl none) := by
    intro I0 hi
    have e1 : zu2 I0 (d + 16) (I0 d 12) a d = I0 d := by rw [zu2_row, rowU_ne (by omega)]
    have e2 : ∀ v : Int, zu2 (zu2 I0 (d + 16) (I0 d 12) a) (d + 17) v x d = I0 d := fun v => by rw [zu2_row, rowU_ne (by omega), e1]
    have e3 : ∀ v w : Int, zu2 (zu2 (zu2 I0 (d + 16) (I0 d 12) a) (d + 17) v x) (d + 18) w 0 d = I0 d := fun v w => by rw [zu2_row, rowU_ne (by omega), e2]
    rw [b40_8 L hi (by rw [e1]; exact hi) (by rw [e2]; exact hi) (by rw [e3]; omega), e3, e1, e2]
    congr 2
    unfold adE
    rw [zu2_row, e3, zu2_row, zu2_row, zu2_row, rowU_ne (show d + 18 ≠ d + 17 by omega), rowU_ne (show d + 17 ≠ d + 16 by omega), rowU_ne (show d + 18 ≠ d + 16 by omega)]
  rw [b40_0 L, e12]
  by_cases hf : J 104 s < 30
  · have ej : dJ J s = J := if_neg (by omega)
    refine ⟨I, ?_, by rw [ej]; exact D, by rw [ej]; exact R, fun _ _ => rfl⟩
    rw [if_pos hf, fin I (by omega)]
  · have ej : dJ J s = sY J s := if_pos (by omega)
    obtain ⟨I1, e1, f1, f2⟩ := k51s (h := h) (I := I) (J := J) (d := d) (s := s) (v2 := vU) (v3 := vU) (v4 := vU) (v5 := vU) hd L L4 W D Q T Z R hs
    have f12 := f1.2.2.2.1
    rw [sY_104] at f12
    refine ⟨I1, ?_, by rw [ej]; exact f1, by rw [ej]; exact RD_sY, fun c hc => ?_⟩
    · rw [if_neg hf, b40_4 L, e1, caln_r, b40_7, fin I1 (by omega)]
    · exact f2 c hc
