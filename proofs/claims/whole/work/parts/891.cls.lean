/-! ===== the class (21): a NOTE ===== -/
theorem RD_4 {J M : Nat → Int → Int} {s n : Int} (T : WT J) (hs : s = 0 ∨ s = 1) (R : RD (dJ J s) s) (hM : ∀ c, c < 115 ∨ (119 < c ∧ c < 123) → M c = dO J s 4 n c) : RD (kN M s (M 104 s)) s := by
  have hb := dJ_104 (T.2.2.2.2.2.1 s hs)
  obtain ⟨r4, r5, r6, r7⟩ := dA_r (J := dJ J s) (s := s) (a := 4) (o := n)
  have e4 : M 104 s = dJ J s 104 s + 1 := by rw [hM 104 (by decide)]; exact dO_104e
  have e2 : ((dJ J s 104 s).toNat : Int) = dJ J s 104 s := Int.toNat_of_nonneg hb.1
  have e1 : (dJ J s 104 s + 1).toNat = (dJ J s 104 s).toNat + 1 := by omega
  rw [e4]
  have m : ∀ c, c < 115 → kN M s (dJ J s 104 s + 1) c = dO J s 4 n c := fun c hc => by rw [kN_f (by omega) (by omega) (by omega), hM c (by omega)]
  have m4 : kN M s (dJ J s 104 s + 1) 104 s = dJ J s 104 s + 1 := by rw [m 104 (by decide)]; exact dO_104e
  have m5 : kN M s (dJ J s 104 s + 1) 105 = up1 (dJ J s 105) (30 * s + dJ J s 104 s) 4 := (m 105 (by decide)).trans r5
  have m6 : kN M s (dJ J s 104 s + 1) 106 = up1 (dJ J s 106) (30 * s + dJ J s 104 s) n := (m 106 (by decide)).trans r6
  have cn := CN_kN (I := M) (s := s) (n := dJ J s 104 s + 1)
  have m2 : kN M s (dJ J s 104 s + 1) 102 = dJ J s 102 := (m 102 (by decide)).trans (dA_f (by decide))
  have m10 : kN M s (dJ J s 104 s + 1) 110 = dJ J s 110 := (m 110 (by decide)).trans (dA_f (by decide))
  have m1 : kN M s (dJ J s 104 s + 1) 101 = dJ J s 101 := (m 101 (by decide)).trans (dA_f (by decide))
  have m9 : kN M s (dJ J s 104 s + 1) 109 = dJ J s 109 := (m 109 (by decide)).trans (dA_f (by decide))
  generalize kN M s (dJ J s 104 s + 1) = K at *
  have h5b : ∀ k, 0 ≤ k → k < ((dJ J s 104 s).toNat : Int) → K 105 (30 * s + k) = dJ J s 105 (30 * s + k) ∧ K 106 (30 * s + k) = dJ J s 106 (30 * s + k) := fun k a b => by
    rw [m5, m6, up1_ne (by omega), up1_ne (by omega)]
    exact ⟨rfl, rfl⟩
  have l5 : K 105 (30 * s + ((dJ J s 104 s).toNat : Int)) = 4 := by rw [e2, m5, up1_eq]
  rw [RD, m4, e1]
  refine ⟨fun y y0 y1 => ?_, fun p p0 p1 => ?_, ?_⟩
  · rw [m1, R.1 y y0 y1]
    show _ = if K 105 (30 * s + ((dJ J s 104 s).toNat : Int)) = 0 ∧ K 106 (30 * s + ((dJ J s 104 s).toNat : Int)) = y then (((dJ J s 104 s).toNat : Int) + 2) else if K 105 (30 * s + ((dJ J s 104 s).toNat : Int)) = 2 ∧ K 106 (30 * s + ((dJ J s 104 s).toNat : Int)) = y then 0 else lv K s y (dJ J s 104 s).toNat
    rw [l5, if_neg (fun q => by have := q.1; omega), if_neg (fun q => by have := q.1; omega), lv_c m2 _ h5b]
  · rw [m9, R.2.1 p p0 p1]
    show _ = if K 105 (30 * s + ((dJ J s 104 s).toNat : Int)) = 1 ∧ K 106 (30 * s + ((dJ J s 104 s).toNat : Int)) = p then (1 : Int) else if K 105 (30 * s + ((dJ J s 104 s).toNat : Int)) = 3 ∧ K 106 (30 * s + ((dJ J s 104 s).toNat : Int)) = p then 0 else pv K s p (dJ J s 104 s).toNat
    rw [l5, if_neg (fun q => by have := q.1; omega), if_neg (fun q => by have := q.1; omega), pv_c (by rw [m10]) _ h5b]
  · have en : nv K s ((dJ J s 104 s).toNat + 1) = dJ J s 104 s + 1 := by
      show (if K 105 (30 * s + ((dJ J s 104 s).toNat : Int)) = 4 then 1 + ((dJ J s 104 s).toNat : Int) else nv K s (dJ J s 104 s).toNat) = _
      rw [l5, if_pos rfl]
      omega
    rw [en]
    exact cn
theorem LXs {h h1 : HP} {c m ci b : Nat} (X : XT h h1 c m) (hn : 140 ≤ hN h) (hb : (decide (b < 140) && decide (b ≠ 14) && decide (b ≠ 46) && decide (b ≠ 30) && decide (b ≠ 62) && (zlay ci).all (fun q => decide ((if q.2.1 = true then q.2.2.1 else b + q.2.2.1) < 140))) = true) (L : LX ci h b) : LX ci h1 b := by
  simp only [Bool.and_eq_true, decide_eq_true_eq, List.all_eq_true] at hb
  obtain ⟨⟨⟨⟨⟨b0, b1⟩, b2⟩, b3⟩, b4⟩, b5⟩ := hb
  exact LX_XT X ⟨by omega, ⟨b1, b2⟩, b3, b4⟩ (fun q hm => Nat.lt_of_lt_of_le (b5 q hm) hn) L
/-- what never moves -/
def STA (h : HP) : Prop := 140 ≤ hN h ∧ (LX 10 h 1 ∧ LX 0 h 2 ∧ LX 8 h 10 ∧ LX 8 h 42) ∧ (LX 3 h 11 ∧ LX 3 h 43 ∧ LX 4 h 17 ∧ LX 4 h 22 ∧ LX 4 h 49 ∧ LX 4 h 54) ∧ (LX 1 h 31 ∧ LX 1 h 63 ∧ LX 7 h 74 ∧ LX 9 h 76) ∧ LX 6 h 81 ∧ LX 2 h 83 ∧ LX 11 h 94
theorem STA_X {h h1 : HP} {c m : Nat} (X : XT h h1 c m) (S : STA h) : STA h1 := by
  obtain ⟨n, ⟨a1, a2, a3, a4⟩, ⟨b1, b2, b3, b4, b5, b6⟩, ⟨c1, c2, c3, c4⟩, d1, d2, d3⟩ := S
  exact ⟨Nat.le_trans n X.1, ⟨LXs X n (by decide) a1, LXs X n (by decide) a2, LXs X n (by decide) a3, LXs X n (by decide) a4⟩, ⟨LXs X n (by decide) b1, LXs X n (by decide) b2, LXs X n (by decide) b3, LXs X n (by decide) b4, LXs X n (by decide) b5, LXs X n (by decide) b6⟩, ⟨LXs X n (by decide) c1, LXs X n (by decide) c2, LXs X n (by decide) c3, LXs X n (by decide) c4⟩, LXs X n (by decide) d1, LXs X n (by decide) d2, LXs X n (by decide) d3⟩
/-- the notes object of a deed: an old one or a new one -/
theorem k45a {h : HP} {E : Nat → Int → Int} {d : Nat} {k : Int} {v1 : MV} (hd : d = 11 ∨ d = 43) (L : LX 3 h d) (W : OWN h) (hE : E d 12 = k + 1) (hk : 0 ≤ k ∧ k < 30) :
    ∃ h1 E1 a, Go 45 4 [.inr (.inl (some d)), v1] [] (mI h E) = Go 45 26 [.inr (.inl (some d)), .inr (.inl (some a))] [] (mI h1 E1) ∧ XT h h1 5 311 ∧ OWN h1 ∧ LX 4 h1 a ∧ 140 ≤ a ∧ hR h1 (d + 19) k = some a ∧ (∀ x i, OAr x → ¬(x = d + 19 ∧ i = k) → hR h1 x i = hR h x i) ∧ (∀ c, c < hN h → E1 c = E c) ∧ (∀ y j b, OAr y → hR h y j = some b → ¬(y = d + 19 ∧ j = k) → b + owz y < a ∨ a + 4 < b) ∧ (hN h ≤ a ∨ hR h (d + 19) k = some a) := by
  have oa := OAr_19 hd
  have ow : owz (d + 19) = 4 := if_neg (by omega)
  rw [b45_4 L (by omega) (by omega), hE, show k + 1 - 1 = k by omega]
  cases hr : hR h (d + 19) k with
  | some a =>
    obtain ⟨w1, w2⟩ := W.2.1 _ _ _ oa hr
    rw [if_neg (by omega)] at w2
    rw [if_neg (fun q => by cases q)]
    refine ⟨h, E, a, rfl, XT_w (XT_r h) (by decide) (by decide), W, w2, w1.1, hr, fun _ _ _ _ => rfl, fun _ _ => rfl, fun y j b hy e hn => ?_, Or.inr rfl⟩
    have := W.2.2 y j b (d + 19) k a hy oa e hr
    rw [ow] at this
    exact this.resolve_left hn
  | none =>
    have X := nuN_X h
    have hN140 := W.1
    have hn5 : hN (nuN h) = hN h + 5 := rfl
    have rs : ∀ x i, OAr x → hR (nuN h) x i = hR h x i := fun x i hx => nuN_R h x i (by have := OAr_b hx; omega)
    have W1 := OWN_X W X rs
    have fresh : ∀ y j b, OAr y → hR h y j = some b → b + owz y < hN h := fun y j b hy e => (W.2.1 y j b hy e).1.2
    have LN := nuN_L h
    have W2 : OWN (hSR (nuN h) (d + 19) k (some (hN h))) := OWN_s W1 oa ⟨hN140, by rw [ow, hn5]; omega⟩ (by rw [if_neg (by omega)]; exact LN) (fun y j b hy e => by rw [rs y j hy] at e; exact fresh y j b hy e)
    have Ld : LX 3 (nuN h) d := by
      refine LX_XT X ⟨by omega, ⟨by omega, by omega⟩, by omega, by omega⟩ (fun q hm => ?_) L
      have : ∀ q ∈ zlay 3, q.2.1 = false ∧ q.2.2.1 < 20 := by decide
      have := this q hm
      rw [this.1]
      show d + q.2.2.1 < hN h
      omega
    refine ⟨hSR (nuN h) (d + 19) k (some (hN h)), nwN E (hN h), hN h, ?_, XT_s X oa, W2, LX_sR (by omega) LN, hN140, ?_, fun x i hx hn => ?_, fun c hc => nwN_f (by omega), fun y j b hy e _ => Or.inl (fresh y j b hy e), Or.inl (Nat.le_refl _)⟩
    · have eE : nwN E (hN h) d 12 = k + 1 := by rw [nwN_f (by omega), hE]
      rw [if_pos rfl, b45_14, k53, caln_v, b45_17 Ld (by omega) LN (by omega), eE, show k + 1 - 1 = k by omega]
    · rw [hR_sR, if_pos ⟨rfl, rfl⟩]
    · rw [hR_sR, if_neg hn, rs x i hx]
theorem k45 {h : HP} {I J M : Nat → Int → Int} {d : Nat} {s n : Int} {v1 : MV} (hd : d = 11 ∨ d = 43) (S : STA h) (L : LX 3 h d) (L4 : LX 4 h (d + 11)) (Ln : LX 4 h (d + 6)) (W : OWN h) (D : DN h I J d s) (Q : WQc J) (T : WT J) (Z : ZO J) (R : RD J s) (hs : s = 0 ∨ s = 1)
    (hM : ∀ c, c < 115 ∨ (119 < c ∧ c < 123) → M c = dO J s 4 n c) (N : NC I M (d + 6) s) (h6 : ∀ j, M 116 j = 0 ∨ M 116 j = 1) (h7 : ∀ j, M 117 j = 0 ∨ M 117 j = 1) (N8 : WN M) :
    ∃ h1 I1, Go 45 0 [.inr (.inl (some d)), v1] [] (mI h I) = some (mI h1 I1, .inl none) ∧ DC h1 I1 (kN M s (M 104 s)) d s ∧ RD (kN M s (M 104 s)) s ∧ OWN h1 ∧ XT h h1 5 311 ∧ (∀ x k, OAr x → x ≠ d + 19 → hR h1 x k = hR h x k) ∧ ∀ c, (c < d ∨ d + 19 < c ∨ (d + 6 ≤ c ∧ c ≤ d + 10)) → c < hN h → (∀ k a, hR h (d + 19) k = some a → c < a ∨ a + 4 < c) → I1 c = I c := by
  obtain ⟨I0, e0, D0, R0, f0⟩ := k40 (h := h) (I := I) (J := J) (d := d) (s := s) (a := 4) (x := -1) hd L L4 W D Q T Z R hs
  have hb := dJ_104 (T.2.2.2.2.2.1 s hs)
  have hR4 := RD_4 (M := M) (n := n) T hs R0 hM
  have e4 : M 104 s = dJ J s 104 s + 1 := by rw [hM 104 (by decide)]; exact dO_104e
  rw [e4] at hR4 ⊢
  have A1 := DN_ad (a := 4) (x := -1) (o := n) hd W (WT_dJ T hs) D0 (fun y y0 y1 => RD_b R0 hb.1 ⟨y0, by omega⟩) hs hb.2
  obtain ⟨k, hk⟩ : ∃ k, k = dJ J s 104 s := ⟨_, rfl⟩
  have d12 : I0 d 12 = k := by rw [D0.2.2.2.1, hk]
  have r5 := (dA_r (J := dJ J s) (s := s) (a := 4) (o := n)).2.1
  rw [← hk] at hR4 A1 hb e4 r5 ⊢
  obtain ⟨K, hK⟩ : ∃ K, K = kN M s (k + 1) := ⟨_, rfl⟩
  have KM : ∀ c, c < 120 ∨ 122 < c → K c = M c := fun c hc => by rw [hK, kN_f (by omega) (by omega) (by omega)]
  have A2 : DNk h (adE I0 d 4 (-1)) K d s k := by
    refine DNk_S (J := dO J s 4 n) (WT_dO T hs) hs hb.1 (fun c hc => ?_) (fun t t0 t1 => ?_) A1
    · rw [KM c (by omega), hM c (by omega)]
    · have q := kN_n (I := M) (s := s) (n := k + 1) (t := t) hs (by omega) (by omega) (by omega)
      rw [hM 120 (by decide), hM 121 (by decide), hM 122 (by decide)] at q
      rw [hK]
      exact ⟨q.1, q.2.1, fun o o0 o1 => q.2.2 o o0 (by omega)⟩
  obtain ⟨E, hE⟩ : ∃ E, E = adE I0 d 4 (-1) := ⟨_, rfl⟩
  have E12 : E d 12 = k + 1 := by rw [hE, adE_d, up1_eq, d12]
  have E16 : E (d + 16) k = 4 := by rw [hE, adE_16.1, d12, up1_eq]
  have EI : ∀ c, (c < d ∨ d + 19 < c ∨ (d + 6 ≤ c ∧ c ≤ d + 10)) → E c = I c := fun c hc => by rw [hE, adE_f (by omega) (by omega), f0 c hc]
  rw [← hE] at A2 e0
  obtain ⟨h1, E1, a, e1, X, W1, La, a140, ha, hr, hE1, hdis, hfr⟩ := k45a (v1 := v1) hd L W E12 hb
  have S1 := STA_X X S
  have hN140 := W.1
  have L1 : LX 3 h1 d := by
    obtain e | e := hd
    · subst e; exact S1.2.2.1.1
    · subst e; exact S1.2.2.1.2.1
  have Ln1 : LX 4 h1 (d + 6) := by
    obtain e | e := hd
    · subst e; exact S1.2.2.1.2.2.1
    · subst e; exact S1.2.2.1.2.2.2.2.1
  have N1 : NO E1 (d + 6) (fun k => M 115 (6 * s + k) - 1) (M 119 s) (fun o => M 118 (120 * s + o) - 1) (fun o => M 116 (120 * s + o)) (fun o => M 117 (120 * s + o)) := by
    rw [NO_I (I := I) (n := d + 6) (fun c c0 c1 => by rw [hE1 c (by omega), EI c (by omega)])]
    exact N
  obtain ⟨I1, e2, g1, g2, g3⟩ := k54 (h := h1) (I := E1) (a := a) (b := d + 6) (v2 := vU) La Ln1 (by omega) N1 (fun o => h6 _) (fun o => h7 _)
  have oa := OAr_19 hd
  have o3 := OAr_3 hd
  have ow : owz (d + 19) = 4 := if_neg (by omega)
  have ow3 : owz (d + 3) = 5 := if_pos (by omega)
  have A3 : DNk h1 I1 K d s k := by
    refine DNk_h W X hd (fun p => hr _ _ o3 (by omega)) (fun i i0 i1 => hr _ _ oa (by omega)) (fun c hc => ?_) (fun p b hp c c0 c1 => ?_) (fun i b i0 i1 hi c c0 c1 => ?_) A2
    · rw [g1 c (by omega), hE1 c (by omega)]
    · have q := hdis _ _ _ o3 hp (by omega)
      have w := (W.2.1 _ _ _ o3 hp).1
      rw [ow3] at q w
      rw [g1 c (by omega), hE1 c (by omega)]
    · have q := hdis _ _ _ oa hi (by omega)
      have w := (W.2.1 _ _ _ oa hi).1
      rw [ow] at q w
      rw [g1 c (by omega), hE1 c (by omega)]
  refine ⟨h1, I1, ?_, ?_, by rw [hK] at *; exact hR4, W1, X, fun x i hx hn => hr x i hx (fun q => hn q.1), fun c hc hcn hca => ?_⟩
  · rw [b45_0 L, e0, caln_v, e1, b45_26 L1 La, e2, caln_v, b45_30]
  · rw [← hK]
    refine DC_n.mpr ⟨⟨A3.1, A3.2.1, A3.2.2.1, A3.2.2.2.1, ?_⟩, ?_⟩
    · have k4 : K 104 s = k + 1 := by rw [KM 104 (by decide), e4]
      rw [k4]
      intro i i0 i1
      by_cases hi : i = k
      · subst hi
        have k5 : K 105 (30 * s + i) = 4 := by
          rw [KM 105 (by decide), hM 105 (by decide)]
          show dA (dJ J s) s 4 n 105 _ = 4
          rw [r5, up1_eq]
        have i16 : I1 (d + 16) i = 4 := by rw [g1 _ (by omega), hE1 _ (by omega), E16]
        rw [k5, i16]
        refine ⟨rfl, fun q => by omega, fun q => by omega, fun q => by omega, fun _ => ⟨a, ha, ?_⟩⟩
        rw [hK]
        exact NS_kN h6 h7 N8 g3
      · exact A3.2.2.2.2 i i0 (by omega)
    · unfold NC
      rw [KM 115 (by decide), KM 116 (by decide), KM 117 (by decide), KM 118 (by decide), KM 119 (by decide), NO_I (I := E1) (n := d + 6) (fun c c0 c1 => g1 c (by omega))]
      exact N1
  · have : c < a ∨ a + 4 < c := by
      obtain q | q := hfr
      · omega
      · exact hca k a q
    rw [g1 c this, hE1 c hcn, EI c hc]
