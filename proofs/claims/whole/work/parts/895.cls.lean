/-! ===== the class (25): entries are spoilt ===== -/
theorem k47 {h : HP} {I J : Nat → Int → Int} {d : Nat} {s o : Int} {v2 v3 : MV} (L : LX 3 h d) (D : DC h I J d s) (M : PM J) (K : WK J) (hs : s = 0 ∨ s = 1) (ho : 0 ≤ o ∧ o < 100) : Go 47 0 [.inr (.inl (some d)), .inl o, v2, v3] [] (mI h I) = some (mI h I, .inl (some (.inl (sq J s o)))) := by
  have hm := K.1 s hs
  have e5 := D.2.1.1
  have key : ∀ (n : Nat) (v : MV), (n : Int) ≤ J 108 s → Go 47 5 [.inr (.inl (some d)), .inl o, .inl ((n : Int) - 1), v] [] (mI h I) = some (mI h I, .inl (some (.inl (lastP (fun i => Spk J (20 * s + i) o) n)))) := by
    intro n
    induction n with
    | zero =>
      intro v _
      rw [b47_5, if_pos (by decide), b47_26]
      rfl
    | succ n ih =>
      intro v hn
      have e1 : ((n + 1 : Nat) : Int) - 1 = n := by omega
      have e2 : (n : Int) + -1 = (n : Int) - 1 := by omega
      rw [e1, b47_5, if_neg (by omega), b47_7 L]
      obtain ⟨a, ha, C⟩ := D.2.1.2 n (by omega) (by omega)
      have hk := K.2 (20 * s + n) (by omega) (by omega)
      have hb := eo_b (I := J) (p := 20 * s + n) (o := o) hk.1.1
      by_cases hi : J 109 (20 * s + n) ≠ 0
      · rw [(k33 L D M hs).2 a (by omega) (by omega) (by omega) hi ha, caln_r, b47_10, if_neg (fun q => by cases q), b47_13 C.1, k56 C, if_pos ho, caln_r, b47_16]
        by_cases he : eo J (20 * s + n) o = -1
        · rw [if_pos he, b47_24 (by omega), e2, ih _ (by omega), show lastP (fun i => Spk J (20 * s + i) o) (n + 1) = lastP (fun i => Spk J (20 * s + i) o) n from if_neg (fun q => by have := q.2.1; omega)]
        · rw [if_neg he, b47_18 C.1, k60 C hk.1 ho, caln_r, b47_21]
          by_cases hb4 : J 114 (120 * (20 * s + n) + eo J (20 * s + n) o) = 0
          · rw [b01_f (fun q => q.2 hb4), if_neg (fun q => q rfl), b47_22, show lastP (fun i => Spk J (20 * s + i) o) (n + 1) = n from if_pos ⟨hi, by omega, hb4⟩]
          · rw [b01_t ⟨by omega, hb4⟩, if_pos neg1_ne, b47_24 (by omega), e2, ih _ (by omega), show lastP (fun i => Spk J (20 * s + i) o) (n + 1) = lastP (fun i => Spk J (20 * s + i) o) n from if_neg (fun q => hb4 q.2.2)]
      · rw [(k33 L D M hs).1 (fun q => hi q.2.2), caln_r, b47_10, if_pos rfl, b47_24 (by omega), e2, ih _ (by omega), show lastP (fun i => Spk J (20 * s + i) o) (n + 1) = lastP (fun i => Spk J (20 * s + i) o) n from if_neg (fun q => hi q.1)]
  rw [b47_0 L (by omega), e5]
  have q := key (J 108 s).toNat v3 (by omega)
  rw [Int.toNat_of_nonneg hm.1] at q
  exact q
theorem k48 {h : HP} {I J : Nat → Int → Int} {d : Nat} {s o : Int} {v3 : MV} (hd : d = 11 ∨ d = 43) (L : LX 3 h d) (W : OWN h) (D : DC h I J d s) (M : PM J) (T : WT J) (hs : s = 0 ∨ s = 1) (ho : 0 ≤ o ∧ o < 100) (hq : 0 ≤ sq J s o) :
    ∃ I1 a, Go 48 0 [.inr (.inl (some d)), .inl (sq J s o), .inl o, v3] [] (mI h I) = some (mI h I1, .inl none) ∧ DC h I1 (spE J s o) d s ∧ hR h (d + 3) (sq J s o) = some a ∧ 140 ≤ a ∧ ∀ c, c ≠ a + 5 → I1 c = I c := by
  have K := T.2.2.2.1
  have hm := K.1 s hs
  have lb := lastP_lt (P := fun i => Spk J (20 * s + i) o) (J 108 s).toNat
  obtain ⟨p, hp⟩ : ∃ p, p = sq J s o := ⟨_, rfl⟩
  have hp2 : p = lastP (fun i => Spk J (20 * s + i) o) (J 108 s).toNat := hp
  rw [← hp2] at lb
  rw [← hp] at hq
  obtain ⟨s1, s2, s3⟩ := lb.2.2 hq
  obtain ⟨a, ha, C⟩ := D.2.1.2 p hq (by omega)
  have hk := K.2 (20 * s + p) (by omega) (by omega)
  have hb := eo_b (I := J) (p := 20 * s + p) (o := o) hk.1.1
  have a140 := C.2.1.1
  have he : spE J s o = zu2 J 114 (120 * (20 * s + p) + eo J (20 * s + p) o) 1 := by unfold spE; rw [← hp]
  obtain ⟨e, hee⟩ : ∃ e, e = eo J (20 * s + p) o := ⟨_, rfl⟩
  rw [← hee] at hb s2 s3 he
  have fI : ∀ c, c ≠ a + 5 → zu2 I (a + 5) e 1 c = I c := fun c hc => by rw [zu2_row, rowU_ne hc]
  have fJ : ∀ c, c ≠ 114 → spE J s o c = J c := fun c hc => by rw [he, zu2_row, rowU_ne hc]
  have j114 : spE J s o 114 = up1 (J 114) (120 * (20 * s + p) + e) 1 := by rw [he, zu2_row, rowU_eq]
  have L5 : hK h (a + 5) = (1, 100) := LX_k C.1 4 false 5 1 100 rfl
  rw [← hp]
  refine ⟨zu2 I (a + 5) e 1, a, ?_, ?_, ha, a140, fI⟩
  · rw [b48_0 L, (k33 L D M hs).2 a hq (by omega) (by omega) s1 ha, caln_r, b48_3, if_neg (fun q => by cases q), b48_6 C.1, k56 C, if_pos ho, caln_r, ← hee, b48_9, if_neg (by omega), b48_11 C.1, k56 C, if_pos ho, caln_r, ← hee, b48_16 L5 (by omega), b48_18]
  · generalize spE J s o = G at *
    have o3 := OAr_3 hd
    have o19 := OAr_19 hd
    have ow3 : owz (d + 3) = 5 := if_pos (by omega)
    have ow19 : owz (d + 19) = 4 := if_neg (by omega)
    refine ⟨⟨fun y y0 y1 => ?_, fun q q0 q1 => ?_⟩, ⟨?_, fun q q0 q1 => ?_⟩, ⟨?_, ?_⟩, ?_, fun k k0 k1 => ?_⟩
    · rw [fI _ (by omega), fI _ (by omega)]
      unfold lcI kc BL
      rw [fJ 101 (by decide), fJ 102 (by decide), fJ 103 (by decide), fJ 107 (by decide)]
      exact D.1.1 y y0 y1
    · rw [fI _ (by omega), fI _ (by omega), fJ 109 (by decide), fJ 110 (by decide)]
      exact D.1.2 q q0 q1
    · rw [fI _ (by omega), fJ 108 (by decide)]
      exact D.2.1.1
    · rw [fJ 108 (by decide)] at q1
      by_cases e1 : q = p
      · subst e1
        refine ⟨a, ha, C.1, C.2.1, ⟨?_, ?_⟩, fun k k0 k1 => ⟨⟨?_, ?_⟩, ?_, ?_⟩, fun k k0 k1 => ?_, fun y y0 y1 => ?_⟩
        · rw [fI _ (by omega), fJ 111 (by decide)]
          exact C.2.2.1.1
        · have e3 : ∀ n : Nat, szN G (20 * s + q) n = szN J (20 * s + q) n := by
            intro n
            induction n with
            | zero => rfl
            | succ n ih =>
              show szN G (20 * s + q) n + sz1 G (20 * s + q) n = szN J (20 * s + q) n + sz1 J (20 * s + q) n
              rw [ih]
              unfold sz1 dlt hdI tlI hdI lsI
              rw [fJ 96 (by decide), fJ 97 (by decide), fJ 112 (by decide), fJ 113 (by decide)]
          rw [fI _ (by omega), fJ 111 (by decide), e3]
          exact C.2.2.1.2
        · rw [fJ 111 (by decide)] at k1
          rw [fI _ (by omega), fJ 112 (by decide)]
          exact (C.2.2.2.1 k k0 k1).1.1
        · rw [fJ 111 (by decide)] at k1
          rw [fI _ (by omega), fJ 113 (by decide)]
          exact (C.2.2.2.1 k k0 k1).1.2
        · rw [fJ 111 (by decide)] at k1
          unfold dpt
          rw [fI _ (by omega), fJ 113 (by decide)]
          exact (C.2.2.2.1 k k0 k1).2.1
        · rw [fJ 111 (by decide)] at k1
          rw [zu2_row, rowU_eq, j114]
          by_cases e4 : k = e
          · subst e4; rw [up1_eq, up1_eq]
          · rw [up1_ne e4, up1_ne (by omega)]
            exact (C.2.2.2.1 k k0 k1).2.2
        · rw [fJ 111 (by decide)] at k0
          rw [zu2_row, rowU_eq, up1_ne (by omega)]
          exact C.2.2.2.2.1 k k0 k1
        · unfold eo
          rw [fI _ (by omega), fJ 111 (by decide), fJ 112 (by decide)]
          exact C.2.2.2.2.2 y y0 y1
      · obtain ⟨b, hb2, Cb⟩ := D.2.1.2 q q0 q1
        have b140 := Cb.2.1.1
        have dis := (W.2.2 _ _ _ _ _ _ o3 o3 hb2 ha).resolve_left (fun t => e1 t.2)
        rw [ow3] at dis
        refine ⟨b, hb2, ?_⟩
        rw [PC_I (I := I) (a := b) (fun c c0 c1 => fI c (by omega))]
        refine PC_P T.1 K (by omega) (fun y _ _ => by rw [fJ 96 (by decide), fJ 97 (by decide)]; exact ⟨rfl, fun _ _ _ => rfl⟩) ⟨by rw [fJ 111 (by decide)], fun k k0 k1 => ?_⟩ Cb
        rw [fJ 112 (by decide), fJ 113 (by decide), j114, up1_ne (by omega)]
        exact ⟨rfl, rfl, rfl⟩
    · unfold NC
      rw [fJ 115 (by decide), fJ 116 (by decide), fJ 117 (by decide), fJ 118 (by decide), fJ 119 (by decide), NO_I (I := I) (n := d + 6) (fun c c0 c1 => fI c (by omega))]
      exact D.2.2.1.1
    · unfold NS
      rw [fJ 120 (by decide), fJ 121 (by decide), fJ 122 (by decide), NO_I (I := I) (n := d + 11) (fun c c0 c1 => fI c (by omega))]
      exact D.2.2.1.2
    · rw [fI _ (by omega), fJ 104 (by decide)]
      exact D.2.2.2.1
    · rw [fJ 104 (by decide)] at k1
      have q := D.2.2.2.2 k k0 k1
      rw [fI (d + 16) (by omega), fI (d + 17) (by omega), fI (d + 18) (by omega), fJ 105 (by decide), fJ 106 (by decide), fJ 107 (by decide)]
      refine ⟨q.1, q.2.1, q.2.2.1, q.2.2.2.1, fun q4 => ?_⟩
      obtain ⟨b, hb2, hNS⟩ := q.2.2.2.2 q4
      have dis := (W.2.2 _ _ _ _ _ _ o19 o3 hb2 ha).resolve_left (fun t => by have := t.1; omega)
      rw [ow3, ow19] at dis
      refine ⟨b, hb2, ?_⟩
      have fr : ∀ c, b ≤ c → c ≤ b + 4 → zu2 I (a + 5) e 1 c = I c := fun c c0 c1 => fI c (by omega)
      unfold NS
      rw [fJ 120 (by decide), fJ 121 (by decide), fJ 122 (by decide), NO_I (I := I) (n := b) fr]
      exact hNS
