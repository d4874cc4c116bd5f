/-! ===== the class (23): a crash of the disk ===== -/
theorem tN_r {M : Nat → Int → Int} {s t : Int} : (∀ k, 0 ≤ k → k < 6 → tN M s t 115 (6 * s + k) = M 120 (6 * (31 * s + t) + k)) ∧ tN M s t 119 s = M 122 (31 * s + t) ∧ ∀ o, 0 ≤ o → o < 120 → tN M s t 118 (120 * s + o) = M 121 (120 * (31 * s + t) + o) / 4 ∧ tN M s t 116 (120 * s + o) = b01 (M 121 (120 * (31 * s + t) + o) / 2 % 2 = 1) ∧ tN M s t 117 (120 * s + o) = b01 (M 121 (120 * (31 * s + t) + o) % 2 = 1) := by
  unfold tN
  refine ⟨fun k k0 k1 => ?_, ?_, fun o o0 o1 => ⟨?_, ?_, ?_⟩⟩
  · rw [rowU_ne (by decide), rowU_ne (by decide), rowU_ne (by decide), rowU_ne (by decide), rowU_eq, fillR_in (by omega), show 6 * s + k - 6 * s = k by omega]
  · rw [rowU_eq, up1_eq]
  · rw [rowU_ne (by decide), rowU_ne (by decide), rowU_ne (by decide), rowU_eq, fillR_in (by omega), show 120 * s + o - 120 * s = o by omega]
  · rw [rowU_ne (by decide), rowU_ne (by decide), rowU_eq, fillR_in (by omega), show 120 * s + o - 120 * s = o by omega]
  · rw [rowU_ne (by decide), rowU_eq, fillR_in (by omega), show 120 * s + o - 120 * s = o by omega]
theorem tN_f {M : Nat → Int → Int} {s t : Int} {c : Nat} (h : c < 115 ∨ 119 < c) : tN M s t c = M c := by
  unfold tN
  rw [rowU_ne (by omega), rowU_ne (by omega), rowU_ne (by omega), rowU_ne (by omega), rowU_ne (by omega)]
theorem k50 {h : HP} {I J : Nat → Int → Int} {d : Nat} {s x : Int} {v2 v3 v4 : MV} (hd : d = 11 ∨ d = 43) (L : LX 3 h d) (L4 : LX 4 h (d + 11)) (Ln : LX 4 h (d + 6)) (W : OWN h) (D : DN h I J d s) (Q : WQc J) (T : WT J) (O : WO J) (h6 : ∀ j, J 116 j = 0 ∨ J 116 j = 1) (h7 : ∀ j, J 117 j = 0 ∨ J 117 j = 1) (h110 : ∀ j, J 110 j = 0 ∨ J 110 j = 1) (hs : s = 0 ∨ s = 1) (hx : 0 ≤ x) :
    ∃ I1, Go 50 0 [.inr (.inl (some d)), .inl x, v2, v3, v4] [] (mI h I) = some (mI h I1, .inl (some (.inl (cL J s x)))) ∧ DC h I1 (cF J s x) d s ∧ RD (cF J s x) s ∧ ∀ c, (c < d ∨ d + 19 < c) → I1 c = I c := by
  have h30 := T.2.2.2.2.2.1 s hs
  obtain ⟨I1, e1, f1, f2, f3, f4, f5⟩ := k51 (h := h) (I := I) (J := J) (d := d) (s := s) (x := x) (v2 := vU) (v3 := vU) (v4 := vU) (v5 := vU) hd L L4 W D Q T.2.1 hs h30 hx
  obtain ⟨M, hM⟩ : ∃ M, M = (cS J s x (J 104 s).toNat).1 := ⟨_, rfl⟩
  obtain ⟨t, ht⟩ : ∃ t, t = (cS J s x (J 104 s).toNat).2.1 := ⟨_, rfl⟩
  have hz : cL J s x = (cS J s x (J 104 s).toNat).2.2 := rfl
  have Mf : ∀ a, a ≠ 102 → a ≠ 103 → a ≠ 110 → M a = J a := fun a p q r => by rw [hM]; exact cS_f p q r _
  have M110 : ∀ j, M 110 j = 0 ∨ M 110 j = 1 := fun j => by rw [hM]; exact cS_110 h110 _ j
  rw [← hz] at e1
  rw [← hM] at f1
  rw [← ht] at f2
  have hF : cF J s x = cE (cR (kN (tN M s t) s 0) s) s := by rw [hM, ht]; rfl
  rw [hF]
  obtain ⟨N, hN⟩ : ∃ N, N = tN M s t := ⟨_, rfl⟩
  have NM : ∀ c, c < 115 ∨ 119 < c → N c = M c := fun c hc => by rw [hN, tN_f hc]
  have N8 : WN N := by
    rw [hN]
    refine tN_WN ?_ ?_
    · intro j; rw [Mf 118 (by decide) (by decide) (by decide)]; exact T.2.2.1 j
    · intro j; rw [Mf 121 (by decide) (by decide) (by decide)]; exact O j
  have N6 : ∀ j, N 116 j = 0 ∨ N 116 j = 1 := fun j => by
    rw [hN]
    unfold tN
    rw [rowU_ne (by decide), rowU_ne (by decide), rowU_eq]
    unfold fillR
    split
    · exact b01_or _
    · rw [Mf 116 (by decide) (by decide) (by decide)]; exact h6 j
  have N7 : ∀ j, N 117 j = 0 ∨ N 117 j = 1 := fun j => by
    rw [hN]
    unfold tN
    rw [rowU_ne (by decide), rowU_eq]
    unfold fillR
    split
    · exact b01_or _
    · rw [Mf 117 (by decide) (by decide) (by decide)]; exact h7 j
  obtain ⟨tr1, tr2, tr3⟩ := tN_r (M := M) (s := s) (t := t)
  rw [← hN] at tr1 tr2 tr3 ⊢
  have cur : NO I1 (d + 11) (fun k => N 115 (6 * s + k) - 1) (N 119 s) (fun o => N 118 (120 * s + o) - 1) (fun o => N 116 (120 * s + o)) (fun o => N 117 (120 * s + o)) := by
    refine NO_c (fun k k0 k1 => ?_) ?_ (fun o o0 o1 => ?_) f2
    · rw [tr1 k k0 k1, Mf 120 (by decide) (by decide) (by decide)]
    · rw [tr2, Mf 122 (by decide) (by decide) (by decide)]
    · obtain ⟨q1, q2, q3⟩ := tr3 o o0 (by omega)
      rw [q1, q2, q3, Mf 121 (by decide) (by decide) (by decide)]
      exact ⟨rfl, rfl, rfl⟩
  -- the loops
  have key1 := lpE (fun k (y : Nat → Int → Int) => Go 50 9 [.inr (.inl (some d)), .inl x, .inl (J 104 s), .inl (J 104 s - cL J s x), .inl k] [] (mI h y)) (fun k y => (∀ c, c ≠ d + 1 → y c = I1 c) ∧ ∀ i, 0 ≤ i → i < k → y (d + 1) i = kc M s i) 0 100 (by decide) ?_ I1 ⟨fun _ _ => rfl, fun i _ _ => by omega⟩
  · obtain ⟨I2, e2, g1, g2⟩ := key1
    have key2 := lpE (fun k (y : Nat → Int → Int) => Go 50 24 [.inr (.inl (some d)), .inl x, .inl (J 104 s), .inl (J 104 s - cL J s x), .inl k] [] (mI h y)) (fun k y => (∀ c, c ≠ d + 4 → y c = I2 c) ∧ ∀ i, 0 ≤ i → i < k → y (d + 4) i = M 110 (20 * s + i)) 0 20 (by decide) ?_ I2 ⟨fun _ _ => rfl, fun i _ _ => by omega⟩
    · obtain ⟨I3, e3, g3, g4⟩ := key2
      have cur3 : NO I3 (d + 11) (fun k => N 115 (6 * s + k) - 1) (N 119 s) (fun o => N 118 (120 * s + o) - 1) (fun o => N 116 (120 * s + o)) (fun o => N 117 (120 * s + o)) := by
        rw [NO_I (I := I1) (n := d + 11) (fun c c0 c1 => by rw [g3 c (by omega), g1 c (by omega)])]
        exact cur
      obtain ⟨I4, e4, g5, g6, g7⟩ := k54 (h := h) (I := I3) (a := d + 6) (b := d + 11) (v2 := vU) Ln L4 (by omega) cur3 (fun o => N6 _) (fun o => N7 _)
      have fin : ∀ c, (c < d + 6 ∨ d + 10 < c) → c ≠ d + 1 → c ≠ d + 4 → I4 c = I1 c := fun c h0 h1 h2 => by rw [g5 c h0, g3 c h2, g1 c h1]
      obtain ⟨K, hK⟩ : ∃ K, K = cE (cR (kN N s 0) s) s := ⟨_, rfl⟩
      have Kf : ∀ c, c ≠ 101 → c ≠ 127 → c ≠ 128 → c ≠ 109 → c ≠ 129 → c ≠ 104 → K c = kN N s 0 c := fun c h1 h2 h3 h4 h5 h6 => by
        rw [hK]
        unfold cE cR
        rw [rowU_ne h6, rowU_ne h5, rowU_ne h4, rowU_ne h3, rowU_ne h2, rowU_ne h1]
      have Kn : ∀ c, c ≠ 101 → c ≠ 127 → c ≠ 128 → c ≠ 109 → c ≠ 129 → c ≠ 104 → (c < 120 ∨ 122 < c) → K c = N c := fun c h1 h2 h3 h4 h5 h6 h7 => by rw [Kf c h1 h2 h3 h4 h5 h6, kN_f (by omega) (by omega) (by omega)]
      have K101 : K 101 = fillR (J 101) (120 * s) (120 * s + 120) (fun j => if M 102 j = 0 then 0 else 1) := by
        rw [hK]
        unfold cE cR
        rw [rowU_ne (by decide), rowU_ne (by decide), rowU_ne (by decide), rowU_ne (by decide), rowU_ne (by decide), rowU_eq, kN_f (by decide) (by decide) (by decide), kN_f (by decide) (by decide) (by decide), NM 101 (by decide), NM 102 (by decide), Mf 101 (by decide) (by decide) (by decide)]
      have K109 : K 109 = fillR (J 109) (20 * s) (20 * s + 20) (M 110) := by
        rw [hK]
        unfold cE cR
        rw [rowU_ne (by decide), rowU_ne (by decide), rowU_eq, rowU_ne (by decide), rowU_ne (by decide), rowU_ne (by decide), rowU_ne (by decide), rowU_ne (by decide), rowU_ne (by decide), kN_f (by decide) (by decide) (by decide), kN_f (by decide) (by decide) (by decide), NM 109 (by decide), NM 110 (by decide), Mf 109 (by decide) (by decide) (by decide)]
      have K104 : K 104 s = 0 := by
        rw [hK]
        unfold cE
        rw [rowU_eq, up1_eq]
      have K102 : K 102 = M 102 := (Kn 102 (by decide) (by decide) (by decide) (by decide) (by decide) (by decide) (by decide)).trans (NM 102 (by decide))
      have K103 : K 103 = M 103 := (Kn 103 (by decide) (by decide) (by decide) (by decide) (by decide) (by decide) (by decide)).trans (NM 103 (by decide))
      have K110 : K 110 = M 110 := (Kn 110 (by decide) (by decide) (by decide) (by decide) (by decide) (by decide) (by decide)).trans (NM 110 (by decide))
      have KJ : ∀ c, (c < 101 ∨ c = 108 ∨ (110 < c ∧ c < 115)) → K c = J c := fun c hc => by rw [Kn c (by omega) (by omega) (by omega) (by omega) (by omega) (by omega) (by omega), NM c (by omega), Mf c (by omega) (by omega) (by omega)]
      have KN : ∀ c, 115 ≤ c → c ≤ 119 → K c = N c := fun c h0 h1 => Kn c (by omega) (by omega) (by omega) (by omega) (by omega) (by omega) (by omega)
      have ekc : ∀ o, kc K s o = kc M s o := fun o => by unfold kc; rw [K102, K103]
      have elc : ∀ o, 0 ≤ o → o < 100 → lcI K s o = kc M s o := fun o o0 o1 => by
        unfold lcI kc BL
        rw [K101, fillR_in (by omega), K103]
        by_cases q : M 102 (120 * s + o) = 0
        · rw [if_pos q, if_pos rfl, if_pos q]
        · rw [if_neg q, if_neg q, if_neg (show ¬(1 : Int) = 0 by decide)]
          by_cases r : M 103 (120 * s + o) = 1
          · rw [if_pos (Or.inl ⟨rfl, r⟩), if_pos r]
          · rw [if_neg (fun t => t.elim (fun t => r t.2) (fun t => t.1 rfl)), if_neg r]
      rw [← hK]
      refine ⟨I4, ?_, DC_n.mpr ⟨⟨⟨fun o o0 o1 => ⟨?_, ?_⟩, fun p p0 p1 => ⟨?_, ?_⟩⟩, ⟨?_, fun p p0 p1 => ?_⟩, ?_, ?_, fun k k0 k1 => ?_⟩, ?_⟩, ?_, fun c hc => ?_⟩
      · have e12 := D.2.2.2.1
        rw [b50_0 L, e1, caln_r, e12, b50_6, e2, b50_9, if_pos (by decide), b50_22, e3, b50_24, if_pos (by decide), b50_37 L Ln, e4, caln_v]
        have hb := cS_b (I := J) (s := s) (x := x) (J 104 s).toNat
        rw [← hz] at hb
        rw [b50_42 (by omega), show J 104 s - (J 104 s - cL J s x) = cL J s x by omega]
      · rw [g5 _ (by omega), g3 _ (by omega), g2 o o0 o1, elc o o0 o1]
      · rw [fin _ (by omega) (by omega) (by omega), f1.1 o o0 o1, ekc]
      · rw [g5 _ (by omega), g4 p p0 p1, K109, fillR_in (by omega)]
      · rw [fin _ (by omega) (by omega) (by omega), f1.2 p p0 p1, K110]
      · rw [fin _ (by omega) (by omega) (by omega), f4 5 (by decide), KJ 108 (by decide)]
        exact D.2.1.1
      · rw [KJ 108 (by decide)] at p1
        obtain ⟨a, ha, C⟩ := D.2.1.2 p p0 p1
        have hm := T.2.2.2.1.1 s hs
        have a140 := C.2.1.1
        refine ⟨a, ha, PC_c T.1 T.2.2.2.1 (by omega) (KJ 96 (by decide)) (KJ 97 (by decide)) (KJ 111 (by decide)) (KJ 112 (by decide)) (KJ 113 (by decide)) (KJ 114 (by decide)) ?_⟩
        rw [PC_I (I := I) (a := a) (fun b b0 b1 => by rw [fin b (by omega) (by omega) (by omega), f5 b (by omega) (by omega) (by omega) (by omega)])]
        exact C
      · have q := NS_kN (I := I4) (M := N) (a := d + 11) (s := s) (t := 0) N6 N7 N8 (by
          rw [NO_I (I := I3) (n := d + 11) (fun c c0 c1 => g5 c (by omega))]
          exact cur3)
        unfold NS at q ⊢
        rw [Kf 120 (by decide) (by decide) (by decide) (by decide) (by decide) (by decide), Kf 121 (by decide) (by decide) (by decide) (by decide) (by decide) (by decide), Kf 122 (by decide) (by decide) (by decide) (by decide) (by decide) (by decide)]
        exact q
      · rw [fin _ (by omega) (by omega) (by omega), f3, K104]
      · rw [K104] at k1
        omega
      · unfold NC
        rw [KN 115 (by decide) (by decide), KN 116 (by decide) (by decide), KN 117 (by decide) (by decide), KN 118 (by decide) (by decide), KN 119 (by decide) (by decide)]
        exact g7
      · rw [RD, K104]
        refine ⟨fun o o0 o1 => ?_, fun p p0 p1 => ?_, ?_⟩
        · show K 101 (120 * s + o) = if K 102 (120 * s + o) = 0 then 0 else 1
          rw [K101, K102, fillR_in (by omega)]
        · show K 109 p = K 110 p
          rw [K109, K110, fillR_in (by omega)]
        · have cn := CN_kN (I := N) (s := s) (n := 0)
          show CN K s 0
          unfold CN nC at cn ⊢
          rw [kN_f (a := 115) (by decide) (by decide) (by decide), kN_f (a := 116) (by decide) (by decide) (by decide), kN_f (a := 117) (by decide) (by decide) (by decide), kN_f (a := 118) (by decide) (by decide) (by decide), kN_f (a := 119) (by decide) (by decide) (by decide)] at cn
          rw [KN 115 (by decide) (by decide), KN 116 (by decide) (by decide), KN 117 (by decide) (by decide), KN 118 (by decide) (by decide), KN 119 (by decide) (by decide), Kf 120 (by decide) (by decide) (by decide) (by decide) (by decide) (by decide), Kf 121 (by decide) (by decide) (by decide) (by decide) (by decide) (by decide), Kf 122 (by decide) (by decide) (by decide) (by decide) (by decide) (by decide)]
          exact cn
      · rw [fin c (by omega) (by omega) (by omega), f5 c (by omega) (by omega) (by omega) (by omega)]
    · intro k y k0 k1 ⟨hy, hi⟩
      have e5 : y (d + 5) k = M 110 (20 * s + k) := by rw [hy _ (by omega), g1 _ (by omega), f1.2 k k0 k1]
      refine ⟨zu2 y (d + 4) k (M 110 (20 * s + k)), ?_, fun c hc => ?_, fun i i0 i1 => ?_⟩
      · rw [b50_24, if_neg (by omega), b50_27 L (by omega) (by rw [e5]; exact M110 _) (by omega), e5]
      · rw [zu2_row, rowU_ne hc, hy c hc]
      · rw [zu2_row, rowU_eq]
        by_cases q : i = k
        · subst q; rw [up1_eq]
        · rw [up1_ne q, hi i i0 (by omega)]
  · intro k y k0 k1 ⟨hy, hi⟩
    have e5 : y (d + 2) k = kc M s k := by rw [hy _ (by omega), f1.1 k k0 k1]
    refine ⟨zu2 y (d + 1) k (kc M s k), ?_, fun c hc => ?_, fun i i0 i1 => ?_⟩
    · rw [b50_9, if_neg (by omega), b50_12 L (by omega) (by omega), e5]
    · rw [zu2_row, rowU_ne hc, hy c hc]
    · rw [zu2_row, rowU_eq]
      by_cases q : i = k
      · subst q; rw [up1_eq]
      · rw [up1_ne q, hi i i0 (by omega)]
