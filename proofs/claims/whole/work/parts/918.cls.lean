/-! ===== the calls (3): queries of packs, of what is missing ===== -/
section QRY2
variable {n : Int} {h : HP} {I J : Nat → Int → Int}
theorem k147 {s x : Int} {v3 : MV} (E : EV n h I J) (c : isP J s x) : ∃ a, Go 147 0 [.inr (.inl (some 1)), .inl s, .inl x, v3] [] (mI h I) = some (mI h I, .inl (some (.inr (.inl (some a))))) ∧ PC h I J a (20 * s + x) := by
  obtain ⟨hs, hx, hp⟩ := c
  have st := sto_o (s := s)
  have L10 := ly_10 E.1
  have V := ev_V E
  have D := (ev_s E hs).1
  have hm : x < J 108 s := by
    by_cases q : J 108 s ≤ x
    · exact absurd (iv_M V s x hs q (by omega)).1 hp
    · omega
  obtain ⟨a, ha, C⟩ := D.2.1.2 x hx.1 hm
  refine ⟨a, ?_, C⟩
  rw [b147_0 L10, k142 E.1 hs, caln_r, b147_3 (ly_8 E.1 st) (ly_3 E.1 st), (k33 (ly_3 E.1 st) D (iv_M V) hs (x := x)).2 a hx.1 hm (by omega) hp ha, caln_r, b147_6, if_neg (by intro t; cases t), b147_10]
theorem k147x {s x : Int} {v3 : MV} (E : EV n h I J) (c : ¬isP J s x) : Go 147 0 [.inr (.inl (some 1)), .inl s, .inl x, v3] [] (mI h I) = some (mI (hThr h) I, .inr 0) := by
  have st := sto_o (s := s)
  have L10 := ly_10 E.1
  have V := ev_V E
  by_cases hs : s = 0 ∨ s = 1
  · have D := (ev_s E hs).1
    have hm := (iv_T V).2.2.2.1.1 s hs
    have q : ¬(0 ≤ x ∧ x < J 108 s ∧ J 109 (20 * s + x) ≠ 0) := fun t => c ⟨hs, by omega, t.2.2⟩
    rw [b147_0 L10, k142 E.1 hs, caln_r, b147_3 (ly_8 E.1 st) (ly_3 E.1 st), (k33 (ly_3 E.1 st) D (iv_M V) hs (x := x)).1 q, caln_r, b147_6, if_pos rfl, b147_9]
  · rw [b147_0 L10, k142x hs, caln_x]
theorem aw_isP {s x : Int} (g : AW I J) : isP J s x = isP I s x := by
  unfold isP
  rw [g.1 109 (by decide) (by decide)]
-- entries
theorem k130 {s x : Int} (E : EV n h I J) : ∃ h1 I1, Go 130 0 [.inr (.inl (some 1)), .inl s, .inl x] [] (mI h I) = some (mI h1 I1, oc eA (ic (isP J s x) 0 1) (J 111 (20 * s + x))) ∧ RS h I h1 I1 J := by
  by_cases c : isP J s x
  · obtain ⟨a, e, C⟩ := k147 (v3 := vU) E c
    exact ⟨h, I, by rw [ic_t c, oc_0, b130_0 (ly_10 E.1), e, caln_r, b130_4 C.1, C.2.2.1.1], RS_r E⟩
  · exact ⟨hThr h, I, by rw [ic_f c, b130_0 (ly_10 E.1), k147x E c, caln_x]; rfl, RS_x E⟩
theorem s130 {s x : Int} (E : EV n h I I) (S : WSc I) : STEP 130 [.inr (.inl (some 1)), .inl s, .inl x] 252 [.inr (.inl (some 94)), .inl s, .inl x] eA n h I :=
  STEP_mk (c := fun J => ic (isP J s x) 0 1) (v := fun J => J 111 (20 * s + x)) (K := fun J => J) E S eA_i (fun _ => ic_01) (fun J E => k130 E)
    (REF_aq (p := fun J => isP J s x) (v := fun J => J 111 (20 * s + x)) (fun I J g => by rw [aw_isP g, g.1 111 (by decide) (by decide)]; exact ⟨rfl, rfl⟩) (fun h2 I2 L V S => r252 L))
-- size
theorem k131 {s x : Int} (E : EV n h I J) : ∃ h1 I1, Go 131 0 [.inr (.inl (some 1)), .inl s, .inl x] [] (mI h I) = some (mI h1 I1, oc eA (ic (isP J s x) 0 1) (szN J (20 * s + x) (J 111 (20 * s + x)).toNat)) ∧ RS h I h1 I1 J := by
  by_cases c : isP J s x
  · obtain ⟨a, e, C⟩ := k147 (v3 := vU) E c
    exact ⟨h, I, by rw [ic_t c, oc_0, b131_0 (ly_10 E.1), e, caln_r, b131_4 C.1, C.2.2.1.2], RS_r E⟩
  · exact ⟨hThr h, I, by rw [ic_f c, b131_0 (ly_10 E.1), k147x E c, caln_x]; rfl, RS_x E⟩
theorem aw_dlt (g : AW I J) : dlt J = dlt I := by
  unfold dlt tlI hdI lsI
  rw [g.1 96 (by decide) (by decide), g.1 97 (by decide) (by decide)]
theorem aw_szN (g : AW I J) {p : Int} : ∀ k : Nat, szN J p k = szN I p k
  | 0 => rfl
  | k + 1 => by
    have e : sz1 J p k = sz1 I p k := by
      unfold sz1
      rw [aw_dlt g, g.1 96 (by decide) (by decide), g.1 112 (by decide) (by decide), g.1 113 (by decide) (by decide)]
    have a := szN_s (I := J) (p := p) (k := (k : Int)) (by omega)
    have b := szN_s (I := I) (p := p) (k := (k : Int)) (by omega)
    have ek : ((k : Int) + 1).toNat = k + 1 := by omega
    have ek2 : (k : Int).toNat = k := by omega
    rw [ek, ek2] at a b
    rw [a, b, aw_szN g k, e]
theorem s131 {s x : Int} (E : EV n h I I) (S : WSc I) : STEP 131 [.inr (.inl (some 1)), .inl s, .inl x] 253 [.inr (.inl (some 94)), .inl s, .inl x, vU, vU, vU, vU, vU] eA n h I :=
  STEP_mk (c := fun J => ic (isP J s x) 0 1) (v := fun J => szN J (20 * s + x) (J 111 (20 * s + x)).toNat) (K := fun J => J) E S eA_i (fun _ => ic_01) (fun J E => k131 E)
    (REF_aq (p := fun J => isP J s x) (v := fun J => szN J (20 * s + x) (J 111 (20 * s + x)).toNat) (fun I J g => by rw [aw_isP g, g.1 111 (by decide) (by decide), aw_szN g]; exact ⟨rfl, rfl⟩) (fun h2 I2 L V S => r253 L (iv_R V).1 (iv_T V).2.2.2.1))
-- base
theorem k132 {s x k : Int} {v4 : MV} (E : EV n h I J) : ∃ h1 I1, Go 132 0 [.inr (.inl (some 1)), .inl s, .inl x, .inl k, v4] [] (mI h I) = some (mI h1 I1, oc eA (ic (isP J s x ∧ 0 ≤ k ∧ k < J 111 (20 * s + x)) 0 1) (bsJ J (20 * s + x) k)) ∧ RS h I h1 I1 J := by
  have L10 := ly_10 E.1
  have V := ev_V E
  by_cases c : isP J s x
  · obtain ⟨a, e, C⟩ := k147 (v3 := vU) E c
    by_cases d : 0 ≤ k ∧ k < J 111 (20 * s + x)
    · have W := (iv_T V).2.2.2.1.2 (20 * s + x) (by have := c.1; have := c.2.1; omega) (by have := c.1; have := c.2.1; omega)
      obtain ⟨⟨m0, m1⟩, m2⟩ := W
      have w := m2 k d.1 d.2
      have eb : I (a + 2) k = J 113 (120 * (20 * s + x) + k) := (C.2.2.2.1 k d.1 d.2).1.2
      have en : nmO J (if 0 ≤ J 113 (120 * (20 * s + x) + k) ∧ J 113 (120 * (20 * s + x) + k) < J 111 (20 * s + x) then J 112 (120 * (20 * s + x) + J 113 (120 * (20 * s + x) + k)) else -1) = bsJ J (20 * s + x) k := by
        unfold bsJ
        by_cases q : J 113 (120 * (20 * s + x) + k) < 0
        · rw [if_neg (by omega), if_pos q]
          exact if_neg (by omega)
        · have w2 := (m2 (J 113 (120 * (20 * s + x) + k)) (by omega) (by omega)).1
          rw [if_pos (by omega), if_neg q]
          exact if_pos w2
      exact ⟨h, I, by rw [ic_t ⟨c, d⟩, oc_0, b132_0 L10, e, caln_r, b132_4, if_neg (by omega), b132_7 C.1, C.2.2.1.1, if_pos d.2, b132_12 L10 C.1 (by omega), eb, k57 C m1, caln_r, b132_20 (ly_0 E.1), k4 (ly_0 E.1) (ev_B E) (iv_R V), caln_r, b132_21, en], RS_r E⟩
    · by_cases q : k < 0
      · exact ⟨hThr h, I, by rw [ic_f (fun t => d t.2), b132_0 L10, e, caln_r, b132_4, if_pos q, b132_11]; rfl, RS_x E⟩
      · exact ⟨hThr h, I, by rw [ic_f (fun t => d t.2), b132_0 L10, e, caln_r, b132_4, if_neg q, b132_7 C.1, C.2.2.1.1, if_neg (by omega), b132_11]; rfl, RS_x E⟩
  · exact ⟨hThr h, I, by rw [ic_f (fun t => c t.1), b132_0 L10, k147x E c, caln_x]; rfl, RS_x E⟩
theorem s132 {s x k : Int} (E : EV n h I I) (S : WSc I) : STEP 132 [.inr (.inl (some 1)), .inl s, .inl x, .inl k, vU] 254 [.inr (.inl (some 94)), .inl s, .inl x, .inl k, vU, vU] eA n h I :=
  STEP_mk (c := fun J => ic (isP J s x ∧ 0 ≤ k ∧ k < J 111 (20 * s + x)) 0 1) (v := fun J => bsJ J (20 * s + x) k) (K := fun J => J) E S eA_i (fun _ => ic_01) (fun J E => k132 E)
    (REF_aq (p := fun J => isP J s x ∧ 0 ≤ k ∧ k < J 111 (20 * s + x)) (v := fun J => bsJ J (20 * s + x) k) (fun I J g => by unfold bsJ; rw [aw_isP g, g.1 111 (by decide) (by decide), g.1 113 (by decide) (by decide), g.1 112 (by decide) (by decide), g.1 98 (by decide) (by decide)]; exact ⟨rfl, rfl⟩) (fun h2 I2 L V S => r254 L (iv_T V).2.2.2.1 (WB_t (iv_R V).1)))
-- missing
theorem Mi_1 {s : Int} (E : EV n h I J) (hs : s = 0 ∨ s = 1) : S1 (Mi J s) := SL_1 E (Mi_r (iv_R (ev_V E)).1 (iv_WR (ev_V E)) hs)
theorem k139 {s : Int} {v2 : MV} (E : EV n h I J) : ∃ h1 I1, Go 139 0 [.inr (.inl (some 1)), .inl s, v2] [] (mI h I) = some (mI h1 I1, oc eA (ic (s = 0 ∨ s = 1) 0 1) (cN (Mi J s) (J 94 0).toNat)) ∧ RS h I h1 I1 J := by
  by_cases hs : s = 0 ∨ s = 1
  · have hT := iv_t (ev_V E)
    have ec : cN (Mi J s) 100 = cN (Mi J s) (J 94 0).toNat := cN_x 100 (by omega) (fun k q => by have := Mi_r (iv_R (ev_V E)).1 (iv_WR (ev_V E)) hs k q; omega)
    exact ⟨h, _, by rw [ic_t hs, oc_0, b139_0 (ly_10 E.1), k142 E.1 hs, caln_r, b139_3 (ly_10 E.1), k158 E hs, caln_v, b139_7 (ly_10 E.1) (ly_74 E.1), k73 (a := 74) (ly_74 E.1) rowU_eq, caln_r, b139_10, ec], RS_75 E (Mi_1 E hs)⟩
  · exact ⟨hThr h, I, by rw [ic_f hs, b139_0 (ly_10 E.1), k142x hs, caln_x]; rfl, RS_x E⟩
theorem aw_Gd2 (g : AW I J) : Gd J = Gd I := aw_Gd g
theorem aw_Mi (g : AW I J) : Mi J = Mi I := by
  unfold Mi
  rw [aw_Eg g, aw_Rf g, aw_Gd g, aw_Th g, g.1 117 (by decide) (by decide)]
theorem s139 {s : Int} (E : EV n h I I) (S : WSc I) : STEP 139 [.inr (.inl (some 1)), .inl s, vU] 270 [.inr (.inl (some 94)), .inl s] eA n h I :=
  STEP_mk (c := fun _ => ic (s = 0 ∨ s = 1) 0 1) (v := fun J => cN (Mi J s) (J 94 0).toNat) (K := fun J => J) E S eA_i (fun _ => ic_01) (fun J E => k139 E)
    (REF_aq3 (p := fun _ => s = 0 ∨ s = 1) (v := fun J => cN (Mi J s) (J 94 0).toNat) (x := fun J => Mi J s) (fun I J g => by rw [aw_Mi g, aw_0 g]; exact ⟨rfl, rfl⟩) (fun h2 I2 L V S => r270 L (iv_T V) (WSc_133e S) (iv_WR V)) (fun I2 V q => S3_l (iv_R V).1 (Mi_r (iv_R V).1 (iv_WR V) q)))
/-- what is kept out of an order is in that order -/
theorem FLT {S T : Int → Prop} {A : Int → Int → Prop} {c m : Int} {e b : Int → Int} (t : TO T A) (Eb : Enum T A m b) (Es : Enum S A c e) (hST : ∀ j, S j → T j) (hc : 0 ≤ c) :
    ∀ k : Nat, (k : Int) ≤ m → (cN (fun i => S (b i)) k ≤ c) ∧ (∀ i, 0 ≤ i → i < cN (fun i => S (b i)) k → ∃ j, (0 ≤ j ∧ j < (k : Int)) ∧ e i = b j) ∧ (∀ j, 0 ≤ j → j < (k : Int) → S (b j) → ∃ i, (0 ≤ i ∧ i < cN (fun i => S (b i)) k) ∧ e i = b j) ∧ ((k : Int) < m → S (b k) → cN (fun i => S (b i)) k < c ∧ e (cN (fun i => S (b i)) k) = b k) := by
  have lt_ne : ∀ i j, 0 ≤ i → i < j → j < m → b i ≠ b j := fun i j i0 ij jm q => by
    have := Eb.2.1 i j i0 ij jm
    rw [q] at this
    exact t.2.2 _ (Eb.1 j (by omega) jm) this
  have last : ∀ k : Nat, (k : Int) ≤ m → (cN (fun i => S (b i)) k ≤ c) → (∀ i, 0 ≤ i → i < cN (fun i => S (b i)) k → ∃ j, (0 ≤ j ∧ j < (k : Int)) ∧ e i = b j) → (∀ j, 0 ≤ j → j < (k : Int) → S (b j) → ∃ i, (0 ≤ i ∧ i < cN (fun i => S (b i)) k) ∧ e i = b j) → ((k : Int) < m → S (b k) → cN (fun i => S (b i)) k < c ∧ e (cN (fun i => S (b i)) k) = b k) := by
    intro k hk h1 h2 h3 hm hs
    obtain ⟨z, hz⟩ : ∃ z, z = cN (fun i => S (b i)) k := ⟨_, rfl⟩
    have cb := cN_b (P := fun i => S (b i)) k
    rw [← hz] at h1 h2 h3 cb ⊢
    obtain ⟨i, hi, ei⟩ := Es.2.2 _ hs
    have iz : z ≤ i := by
      by_cases q : z ≤ i
      · exact q
      · obtain ⟨j, hj, ej⟩ := h2 i hi.1 (by omega)
        exact absurd (ej.symm.trans ei) (lt_ne j k hj.1 hj.2 hm)
    have zc : z < c := by omega
    refine ⟨zc, ?_⟩
    by_cases q : i = z
    · rw [← q]; exact ei
    · have sz := Es.1 z cb.1 zc
      obtain ⟨j, hj, ej⟩ := Eb.2.2 _ (hST _ sz)
      have a1 := Es.2.1 z i cb.1 (by omega) hi.2
      rw [ei, ← ej] at a1
      have jk : j < k := by
        by_cases r : j < k
        · exact r
        · exfalso
          by_cases r2 : j = k
          · subst r2
            exact t.2.2 _ (Eb.1 _ hj.1 hj.2) a1
          · have a2 := Eb.2.1 k j (by omega) (by omega) hj.2
            exact t.2.2 _ (Eb.1 _ hj.1 hj.2) (t.2.1 _ _ _ (Eb.1 _ hj.1 hj.2) (Eb.1 k (by omega) hm) (Eb.1 _ hj.1 hj.2) a1 a2)
      obtain ⟨i2, hi2, e2⟩ := h3 j hj.1 jk (by rw [ej]; exact sz)
      have a3 := Es.2.1 i2 z hi2.1 hi2.2 zc
      rw [e2, ej] at a3
      exact absurd a3 (t.2.2 _ (hST _ sz))
  intro k
  induction k with
  | zero =>
    intro hk
    have z : cN (fun i => S (b i)) 0 = 0 := rfl
    have h2 : ∀ i, 0 ≤ i → i < cN (fun i => S (b i)) 0 → ∃ j, (0 ≤ j ∧ j < ((0 : Nat) : Int)) ∧ e i = b j := fun i a b => by rw [z] at b; omega
    have h3 : ∀ j, 0 ≤ j → j < ((0 : Nat) : Int) → S (b j) → ∃ i, (0 ≤ i ∧ i < cN (fun i => S (b i)) 0) ∧ e i = b j := fun j a b => by omega
    exact ⟨hc, h2, h3, last 0 hk hc h2 h3⟩
  | succ k ih =>
    intro hk
    obtain ⟨h1, h2, h3, h4⟩ := ih (by omega)
    obtain ⟨z, hz⟩ : ∃ z, z = cN (fun i => S (b i)) k := ⟨_, rfl⟩
    have cs : cN (fun i => S (b i)) (k + 1) = z + b01 (S (b k)) := by
      have := cN_s (P := fun i => S (b i)) (k := (k : Int)) (by omega)
      rw [show ((k : Int) + 1).toNat = k + 1 by omega, show (k : Int).toNat = k by omega, ← hz] at this
      exact this
    have cb := cN_b (P := fun i => S (b i)) k
    rw [← hz] at h1 h2 h3 h4 cb
    have key : cN (fun i => S (b i)) (k + 1) ≤ c ∧ (∀ i, 0 ≤ i → i < cN (fun i => S (b i)) (k + 1) → ∃ j, (0 ≤ j ∧ j < ((k + 1 : Nat) : Int)) ∧ e i = b j) ∧ (∀ j, 0 ≤ j → j < ((k + 1 : Nat) : Int) → S (b j) → ∃ i, (0 ≤ i ∧ i < cN (fun i => S (b i)) (k + 1)) ∧ e i = b j) := by
      rw [cs]
      by_cases q : S (b k)
      · obtain ⟨g1, g2⟩ := h4 (by omega) q
        rw [b01_t q]
        refine ⟨by omega, fun i i0 i1 => ?_, fun j j0 j1 sj => ?_⟩
        · by_cases r : i = z
          · exact ⟨k, by omega, by rw [r]; exact g2⟩
          · obtain ⟨j, hj, ej⟩ := h2 i i0 (by omega)
            exact ⟨j, by omega, ej⟩
        · by_cases r : j = k
          · exact ⟨z, by omega, by rw [r]; exact g2⟩
          · obtain ⟨i, hi, ei⟩ := h3 j j0 (by omega) sj
            exact ⟨i, by omega, ei⟩
      · rw [b01_f q]
        refine ⟨by omega, fun i i0 i1 => ?_, fun j j0 j1 sj => ?_⟩
        · obtain ⟨j, hj, ej⟩ := h2 i i0 (by omega)
          exact ⟨j, by omega, ej⟩
        · by_cases r : j = k
          · rw [r] at sj; exact absurd sj q
          · obtain ⟨i, hi, ei⟩ := h3 j j0 (by omega) sj
            exact ⟨i, by omega, ei⟩
    exact ⟨key.1, key.2.1, key.2.2, last (k + 1) hk key.1 key.2.1 key.2.2⟩
/-- .. and it comes to the end -/
theorem FLT_n {S T : Int → Prop} {A : Int → Int → Prop} {c m : Int} {e b : Int → Int} (t : TO T A) (Eb : Enum T A m b) (Es : Enum S A c e) (hST : ∀ j, S j → T j) (hc : 0 ≤ c) (hm : 0 ≤ m) : cN (fun i => S (b i)) m.toNat = c := by
  obtain ⟨h1, h2, h3, _⟩ := FLT t Eb Es hST hc m.toNat (by omega)
  by_cases q : cN (fun i => S (b i)) m.toNat = c
  · exact q
  · exfalso
    have cb := cN_b (P := fun i => S (b i)) m.toNat
    have sc := Es.1 (cN (fun i => S (b i)) m.toNat) cb.1 (by omega)
    obtain ⟨j, hj, ej⟩ := Eb.2.2 _ (hST _ sc)
    obtain ⟨i, hi, ei⟩ := h3 j hj.1 (by omega) (by rw [ej]; exact sc)
    have a := Es.2.1 i (cN (fun i => S (b i)) m.toNat) hi.1 hi.2 (by omega)
    rw [ei, ej] at a
    exact t.2.2 _ (hST _ sc) a
theorem ev_nm (E : EV n h I J) : EnN J (I 9) := (ev_B E).2.2
-- missingAt
theorem k140 {s p : Int} {e : Int → Int} {v3 v4 v5 v6 : MV} (E : EV n h I J) (Ee : s = 0 ∨ s = 1 → EnM J s e) : ∃ h1 I1, Go 140 0 [.inr (.inl (some 1)), .inl s, .inl p, v3, v4, v5, v6] [] (mI h I) = some (mI h1 I1, oc eA (ic ((s = 0 ∨ s = 1) ∧ 0 ≤ p ∧ p < mN J s) 0 1) (J 98 (e p))) ∧ RS h I h1 I1 J := by
  have L10 := ly_10 E.1
  have V := ev_V E
  have hT := iv_t V
  by_cases hs : s = 0 ∨ s = 1
  · have EM := Ee hs
    have E1 := EV_75 E (Mi_1 E hs)
    have EN := ev_nm E1
    have t := TO_nm (iv_N V) (T := fun j => 0 ≤ j ∧ j < J 94 0) (fun j q => q)
    have hm : 0 ≤ mN J s := (cN_b _).1
    have fl := FLT t EN EM (fun j q => Mi_r (iv_R V).1 (iv_WR V) hs j q) hm
    have fn := FLT_n t EN EM (fun j q => Mi_r (iv_R V).1 (iv_WR V) hs j q) hm hT.1
    obtain ⟨b, hb⟩ : ∃ b, b = rowU I 75 (ind (Mi J s)) 9 := ⟨_, rfl⟩
    obtain ⟨K, hK⟩ : ∃ K, K = rowU I 75 (ind (Mi J s)) := ⟨_, rfl⟩
    rw [← hK] at E1
    rw [← hb] at fl fn EN
    have K9 : K 9 = b := by rw [hb, hK]
    have K27 : K 2 7 = J 94 0 := (ev_B E1).1
    have K75 : ∀ j, K 75 j = b01 (Mi J s j) := fun j => by rw [hK, rowU_eq]; rfl
    obtain ⟨h1, I1, e1, R1⟩ : ∃ h1 I1, Go 140 11 [.inr (.inl (some 1)), .inl s, .inl p, .inr (.inl (some ((sto s)))), .inl 0, .inl 0, v6] [] (mI h K) = some (mI h1 I1, oc eA (ic (0 ≤ p ∧ p < mN J s) 0 1) (J 98 (e p))) ∧ (I1 = K ∧ (h1 = h ∨ h1 = hThr h)) := by
      refine lpQ (fun k (w : MV) => Go 140 11 [.inr (.inl (some 1)), .inl s, .inl p, .inr (.inl (some ((sto s)))), .inl (cN (fun i => Mi J s (b i)) k.toNat), .inl k, w] [] (mI h K)) (fun k _ => ¬(0 ≤ p ∧ p < cN (fun i => Mi J s (b i)) k.toNat)) (fun r => ∃ h1 I1, r = some (mI h1 I1, oc eA (ic (0 ≤ p ∧ p < mN J s) 0 1) (J 98 (e p))) ∧ (I1 = K ∧ (h1 = h ∨ h1 = hThr h))) 0 (J 94 0) hT.1 ?_ ?_ v6 (fun q => by have z : cN (fun i => Mi J s (b i)) (0 : Int).toNat = 0 := rfl; rw [z] at q; omega)
      · intro k w k0 k1 hq
        obtain ⟨f1, f2, f3, f4⟩ := fl k.toNat (by omega)
        have ek : ((k.toNat : Nat) : Int) = k := Int.toNat_of_nonneg k0
        rw [ek] at f4
        have cs : cN (fun i => Mi J s (b i)) (k + 1).toNat = cN (fun i => Mi J s (b i)) k.toNat + b01 (Mi J s (b k)) := cN_s k0
        have cb := cN_b (P := fun i => Mi J s (b i)) k.toNat
        have br := EN.1 k k0 k1
        rw [b140_11 L10 (ly_0 E.1), K27, if_neg (by omega), b140_16 L10 (ly_0 E.1) (by omega) (ly_74 E.1) (by rw [K9]; omega), K9, K75]
        by_cases c : Mi J s (b k)
        · obtain ⟨g1, g2⟩ := f4 k1 c
          rw [b01_t c] at cs ⊢
          rw [if_pos neg1_ne, b140_29]
          by_cases d : cN (fun i => Mi J s (b i)) k.toNat = p
          · left
            refine ⟨h, K, ?_, rfl, Or.inl rfl⟩
            have en : nmO J (b k) = J 98 (e p) := by rw [← d, g2]; exact if_pos br
            rw [if_neg (fun t => t d), b140_32 L10 (ly_0 E.1), k4 (ly_0 E.1) (ev_B E1) (iv_R V), caln_r, b140_36, en, ic_t (by omega), oc_0]
          · right
            refine ⟨.inl (b k), ?_, by rw [cs]; omega⟩
            rw [if_pos d, b140_37 (by omega), b140_38 (by omega), cs]
        · rw [b01_f c] at cs ⊢
          right
          refine ⟨.inl (b k), ?_, by rw [cs, Int.add_zero]; exact hq⟩
          rw [if_neg (fun t => t rfl), b140_28, b140_38 (by omega), cs, Int.add_zero]
      · intro w hq
        rw [fn] at hq
        refine ⟨hThr h, K, ?_, rfl, Or.inr rfl⟩
        rw [b140_11 L10 (ly_0 E.1), K27, if_pos (Int.le_refl _), b140_40, ic_f hq]
        rfl
    refine ⟨h1, I1, ?_, ?_⟩
    · rw [b140_0 L10, k142 E.1 hs, caln_r, b140_3 L10, k158 E hs, caln_v, b140_7, ← hK, e1]
      by_cases q : 0 ≤ p ∧ p < mN J s
      · rw [ic_t q, ic_t ⟨hs, q⟩]
      · rw [ic_f q, ic_f (fun r => q r.2)]
    · rw [R1.1, hK]
      obtain q | q := R1.2
      · rw [q]; exact RS_75 E (Mi_1 E hs)
      · rw [q]; exact RS_75x E (Mi_1 E hs)
  · exact ⟨hThr h, I, by rw [ic_f (fun q => hs q.1), b140_0 L10, k142x hs, caln_x]; rfl, RS_x E⟩
end QRY2
