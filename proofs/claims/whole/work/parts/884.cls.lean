/-! ===== the class (14): a disk ===== -/
noncomputable def lcI (J : Nat → Int → Int) (s o : Int) : Int := if J 101 (120 * s + o) = 0 then 0 else @ite _ (BL J s o) (Classical.propDecidable _) 2 1
def kc (J : Nat → Int → Int) (s o : Int) : Int := if J 102 (120 * s + o) = 0 then 0 else if J 103 (120 * s + o) = 1 then 2 else 1
/-- the deeds of a disk -/
def DD (h : HP) (I J : Nat → Int → Int) (d : Nat) (s n : Int) : Prop := ∀ k, 0 ≤ k → k < n → I (d + 16) k = J 105 (30 * s + k) ∧ (J 105 (30 * s + k) = 0 → I (d + 18) k = J 107 (30 * s + k)) ∧ (J 105 (30 * s + k) = 0 ∨ J 105 (30 * s + k) = 2 → I (d + 17) k = J 106 (30 * s + k)) ∧ (J 105 (30 * s + k) = 1 ∨ J 105 (30 * s + k) = 3 → I (d + 17) k = J 106 (30 * s + k) - 20 * s) ∧ (J 105 (30 * s + k) = 4 → ∃ a, hR h (d + 19) k = some a ∧ NS I J a s (k + 1))
def DC (h : HP) (I J : Nat → Int → Int) (d : Nat) (s : Int) : Prop :=
  ((∀ o, 0 ≤ o → o < 100 → I (d + 1) o = lcI J s o ∧ I (d + 2) o = kc J s o) ∧ (∀ p, 0 ≤ p → p < 20 → I (d + 4) p = J 109 (20 * s + p) ∧ I (d + 5) p = J 110 (20 * s + p))) ∧
  (I d 5 = J 108 s ∧ ∀ p, 0 ≤ p → p < J 108 s → ∃ a, hR h (d + 3) p = some a ∧ PC h I J a (20 * s + p)) ∧
  (NC I J (d + 6) s ∧ NS I J (d + 11) s 0) ∧ I d 12 = J 104 s ∧ DD h I J d s (J 104 s)
/-- the same without the current notes -/
def DN (h : HP) (I J : Nat → Int → Int) (d : Nat) (s : Int) : Prop :=
  ((∀ o, 0 ≤ o → o < 100 → I (d + 1) o = lcI J s o ∧ I (d + 2) o = kc J s o) ∧ (∀ p, 0 ≤ p → p < 20 → I (d + 4) p = J 109 (20 * s + p) ∧ I (d + 5) p = J 110 (20 * s + p))) ∧
  (I d 5 = J 108 s ∧ ∀ p, 0 ≤ p → p < J 108 s → ∃ a, hR h (d + 3) p = some a ∧ PC h I J a (20 * s + p)) ∧
  NS I J (d + 11) s 0 ∧ I d 12 = J 104 s ∧ DD h I J d s (J 104 s)
theorem DC_n {h : HP} {I J : Nat → Int → Int} {d : Nat} {s : Int} : DC h I J d s ↔ DN h I J d s ∧ NC I J (d + 6) s :=
  ⟨fun D => ⟨⟨D.1, D.2.1, D.2.2.1.2, D.2.2.2⟩, D.2.2.1.1⟩, fun D => ⟨D.1.1, D.1.2.1, ⟨D.2, D.1.2.2.1⟩, D.1.2.2.2⟩⟩
/-- packs that are not made are not in -/
def PM (J : Nat → Int → Int) : Prop := ∀ s p, s = 0 ∨ s = 1 → J 108 s ≤ p → p < 20 → J 109 (20 * s + p) = 0 ∧ J 110 (20 * s + p) = 0
theorem k33 {h : HP} {I J : Nat → Int → Int} {d : Nat} {s x : Int} (L : LX 3 h d) (D : DC h I J d s) (M : PM J) (hs : s = 0 ∨ s = 1) :
    (¬(0 ≤ x ∧ x < J 108 s ∧ J 109 (20 * s + x) ≠ 0) → Go 33 0 [.inr (.inl (some d)), .inl x] [] (mI h I) = some (mI h I, .inl (some (.inr (.inl none))))) ∧ ∀ a, 0 ≤ x → x < J 108 s → x < 20 → J 109 (20 * s + x) ≠ 0 → hR h (d + 3) x = some a → Go 33 0 [.inr (.inl (some d)), .inl x] [] (mI h I) = some (mI h I, .inl (some (.inr (.inl (some a))))) := by
  constructor
  · intro q
    rw [b33_0]
    by_cases h0 : x < 0
    · rw [if_pos h0, b33_15, b33_16]
    · rw [if_neg h0, b33_2]
      by_cases h1 : 20 ≤ x
      · rw [if_pos h1, b33_15, b33_16]
      · have e := (D.1.2 x (by omega) (by omega)).1
        have z : J 109 (20 * s + x) = 0 := by
          by_cases h2 : J 108 s ≤ x
          · exact (M s x hs h2 (by omega)).1
          · exact Classical.byContradiction fun r => q ⟨by omega, by omega, r⟩
        rw [if_neg h1, b33_5 L (by omega), e, if_pos z, b33_15, b33_16]
  · intro a x0 x1 x2 xn ha
    have e := (D.1.2 x (by omega) (by omega)).1
    rw [b33_0, if_neg (by omega), b33_2, if_neg (by omega), b33_5 L (by omega), e, if_neg xn, b33_10 L (by omega), ha, b33_16]
theorem HE_eo {J : Nat → Int → Int} {p o : Int} (hm : 0 ≤ J 111 p) : (∃ k, 0 ≤ k ∧ k < J 111 p ∧ J 112 (120 * p + k) = o) ↔ eo J p o ≠ -1 := by
  have hb := eo_b (I := J) (p := p) (o := o) hm
  constructor
  · rintro ⟨k, k0, k1, e⟩ q
    exact eo_no hm (by omega) k k0 k1 e
  · intro q
    exact ⟨eo J p o, by omega, hb.2.1, hb.2.2 (by omega)⟩
theorem k35 {h : HP} {I J : Nat → Int → Int} {d : Nat} {s o : Int} {v2 v3 : MV} (L : LX 3 h d) (D : DC h I J d s) (M : PM J) (K : WK J) (hs : s = 0 ∨ s = 1) (ho : 0 ≤ o ∧ o < 100) : Go 35 0 [.inr (.inl (some d)), .inl o, v2, v3] [] (mI h I) = some (mI h I, .inl (some (.inl (b01 (HE J s o 0))))) := by
  have hm := K.1 s hs
  have e5 := D.2.1.1
  rw [b35_0]
  refine lpQ (fun k (v : MV) => Go 35 2 [.inr (.inl (some d)), .inl o, .inl k, v] [] (mI h I)) (fun k _ => ∀ p, 0 ≤ p → p < k → J 109 (20 * s + p) ≠ 0 → eo J (20 * s + p) o = -1) (fun r => r = some (mI h I, .inl (some (.inl (b01 (HE J s o 0)))))) 0 (J 108 s) hm.1 ?_ ?_ v3 (fun p a b => by omega)
  · intro k v k0 k1 hq
    obtain ⟨a, ha, C⟩ := D.2.1.2 k k0 k1
    have hk := K.2 (20 * s + k) (by omega) (by omega)
    by_cases hi : J 109 (20 * s + k) ≠ 0
    · rw [b35_2 L, e5, if_neg (by omega), b35_6 L, (k33 L D M hs).2 a k0 k1 (by omega) hi ha, caln_r, b35_9, if_neg (fun q => by cases q), b35_12 C.1, k56 C, if_pos ho, caln_r, b35_15]
      by_cases he : eo J (20 * s + k) o = -1
      · right
        refine ⟨_, by rw [if_pos he, b35_19 (by omega)], fun p p0 p1 pn => ?_⟩
        by_cases hp : p = k
        · subst hp; exact he
        · exact hq p p0 (by omega) pn
      · left
        have hb := eo_b (I := J) (p := 20 * s + k) (o := o) hk.1.1
        rw [if_neg he, b35_17, b01_t ⟨20 * s + k, eo J (20 * s + k) o, by omega, by omega, hi, by omega, hb.2.1, hb.2.2 (by omega), fun q => absurd rfl q⟩]
    · right
      refine ⟨_, by rw [b35_2 L, e5, if_neg (by omega), b35_6 L, (k33 L D M hs).1 (fun q => hi q.2.2), caln_r, b35_9, if_pos rfl, b35_19 (by omega)], fun p p0 p1 pn => ?_⟩
      by_cases hp : p = k
      · subst hp; exact absurd pn hi
      · exact hq p p0 (by omega) pn
  · intro v hq
    rw [b35_2 L, e5, if_pos (Int.le_refl _), b35_21, b01_f]
    rintro ⟨p, k, p0, p1, pn, k0, k1, e, _⟩
    have h1 := hq (p - 20 * s) (by omega) (by omega) (by rw [show 20 * s + (p - 20 * s) = p by omega]; exact pn)
    rw [show 20 * s + (p - 20 * s) = p by omega] at h1
    exact (HE_eo (K.2 p (by omega) (by omega)).1.1).mp ⟨k, k0, k1, e⟩ h1
theorem PD_eo {J : Nat → Int → Int} {p k : Int} (P : PD J p) (h0 : 0 ≤ k) (h1 : k < J 111 p) : eo J p (J 112 (120 * p + k)) = k := by
  have hb := eo_b (I := J) (p := p) (o := J 112 (120 * p + k)) (by omega)
  have hne : 0 ≤ eo J p (J 112 (120 * p + k)) := by
    refine Classical.byContradiction fun q => ?_
    exact eo_no (by omega) (by omega) k h0 h1 rfl
  have e := hb.2.2 hne
  by_cases q1 : eo J p (J 112 (120 * p + k)) < k
  · exact absurd e (P _ _ hne q1 h1)
  · by_cases q2 : k < eo J p (J 112 (120 * p + k))
    · exact absurd e.symm (P _ _ h0 q2 hb.2.1)
    · omega
/-- all packs are without doubles -/
def PDs (J : Nat → Int → Int) : Prop := ∀ s p, s = 0 ∨ s = 1 → 0 ≤ p → p < J 108 s → PD J (20 * s + p)
theorem k36 {h : HP} {I J : Nat → Int → Int} {d : Nat} {s o : Int} {v2 v3 : MV} (L : LX 3 h d) (D : DC h I J d s) (M : PM J) (K : WK J) (P : PDs J) (hs : s = 0 ∨ s = 1) (ho : 0 ≤ o ∧ o < 100) : Go 36 0 [.inr (.inl (some d)), .inl o, v2, v3] [] (mI h I) = some (mI h I, .inl (some (.inl (b01 (HE J s o 1))))) := by
  have hm := K.1 s hs
  have e5 := D.2.1.1
  rw [b36_0]
  refine lpQ (fun k (v : MV) => Go 36 2 [.inr (.inl (some d)), .inl o, .inl k, v] [] (mI h I)) (fun k _ => ∀ p, 0 ≤ p → p < k → J 109 (20 * s + p) ≠ 0 → ¬(0 ≤ eo J (20 * s + p) o ∧ GE J (20 * s + p) (eo J (20 * s + p) o))) (fun r => r = some (mI h I, .inl (some (.inl (b01 (HE J s o 1)))))) 0 (J 108 s) hm.1 ?_ ?_ v3 (fun p a b => by omega)
  · intro k v k0 k1 hq
    obtain ⟨a, ha, C⟩ := D.2.1.2 k k0 k1
    have hk := K.2 (20 * s + k) (by omega) (by omega)
    by_cases hi : J 109 (20 * s + k) ≠ 0
    · rw [b36_2 L, e5, if_neg (by omega), b36_6 L, (k33 L D M hs).2 a k0 k1 (by omega) hi ha, caln_r, b36_9, if_neg (fun q => by cases q), b36_12 C.1, k61 C K (by omega) ho, caln_r, b36_15]
      by_cases he : 0 ≤ eo J (20 * s + k) o ∧ GE J (20 * s + k) (eo J (20 * s + k) o)
      · left
        have hb := eo_b (I := J) (p := 20 * s + k) (o := o) hk.1.1
        rw [b01_t he, if_neg neg1_ne, b36_16, b01_t ⟨20 * s + k, eo J (20 * s + k) o, by omega, by omega, hi, by omega, hb.2.1, hb.2.2 (by omega), fun _ => he.2⟩]
      · right
        refine ⟨_, by rw [b01_f he, if_pos rfl, b36_18 (by omega)], fun p p0 p1 pn => ?_⟩
        by_cases hp : p = k
        · subst hp; exact he
        · exact hq p p0 (by omega) pn
    · right
      refine ⟨_, by rw [b36_2 L, e5, if_neg (by omega), b36_6 L, (k33 L D M hs).1 (fun q => hi q.2.2), caln_r, b36_9, if_pos rfl, b36_18 (by omega)], fun p p0 p1 pn => ?_⟩
      by_cases hp : p = k
      · subst hp; exact absurd pn hi
      · exact hq p p0 (by omega) pn
  · intro v hq
    rw [b36_2 L, e5, if_pos (Int.le_refl _), b36_20, b01_f]
    rintro ⟨p, k, p0, p1, pn, k0, k1, e, g⟩
    have hp : 20 * s + (p - 20 * s) = p := by omega
    have h1 := hq (p - 20 * s) (by omega) (by omega) (by rw [hp]; exact pn)
    have P1 := P s (p - 20 * s) hs (by omega) (by omega)
    rw [hp] at h1 P1
    have e2 := PD_eo P1 k0 k1
    rw [e] at e2
    rw [e2] at h1
    exact h1 ⟨k0, g (by decide)⟩
theorem lc_0 {J : Nat → Int → Int} {s o : Int} (W : WL J) : lcI J s o ≠ 0 ↔ 0 < J 101 (120 * s + o) := by
  have := W.2.2 (120 * s + o)
  unfold lcI
  by_cases q : J 101 (120 * s + o) = 0
  · rw [if_pos q]; omega
  · rw [if_neg q]
    by_cases r : BL J s o
    · rw [if_pos r]; omega
    · rw [if_neg r]; omega
theorem lc_1 {J : Nat → Int → Int} {s o : Int} (W : WL J) : lcI J s o = 1 ↔ GL J s o := by
  have := W.2.2 (120 * s + o)
  unfold lcI GL
  by_cases q : J 101 (120 * s + o) = 0
  · rw [if_pos q]
    exact ⟨fun r => by omega, fun r => by omega⟩
  · rw [if_neg q]
    by_cases r : BL J s o
    · rw [if_pos r]
      exact ⟨fun h => by omega, fun h => absurd r h.2⟩
    · rw [if_neg r]
      exact ⟨fun _ => ⟨by omega, r⟩, fun _ => rfl⟩
theorem k37 {h : HP} {I J : Nat → Int → Int} {d : Nat} {s o : Int} (L : LX 3 h d) (D : DC h I J d s) (M : PM J) (K : WK J) (W : WL J) (hs : s = 0 ∨ s = 1) (ho : 0 ≤ o ∧ o < 100) : Go 37 0 [.inr (.inl (some d)), .inl o] [] (mI h I) = some (mI h I, .inl (some (.inl (b01 (Th J s o))))) := by
  have e := (D.1.1 o ho.1 ho.2).1
  rw [b37_0 L ho, e]
  by_cases q : lcI J s o ≠ 0
  · rw [if_pos q, b37_9, b37_12 (Or.inr rfl), b01_t (p := Th J s o) (Or.inl ((lc_0 W).mp q))]
  · have q2 : ¬0 < J 101 (120 * s + o) := fun r => q ((lc_0 W).mpr r)
    rw [if_neg q, b37_5 L, k35 L D M K hs ho, caln_r, b37_8]
    by_cases r : HE J s o 0
    · rw [b01_t r, if_neg neg1_ne, b37_9, b37_12 (Or.inr rfl), b01_t (p := Th J s o) (Or.inr r)]
    · rw [b01_f r, if_pos rfl, b37_11, b37_12 (Or.inl rfl), b01_f (fun t => t.elim q2 r)]
theorem k38 {h : HP} {I J : Nat → Int → Int} {d : Nat} {s o : Int} (L : LX 3 h d) (D : DC h I J d s) (M : PM J) (K : WK J) (P : PDs J) (W : WL J) (hs : s = 0 ∨ s = 1) (ho : 0 ≤ o ∧ o < 100) : Go 38 0 [.inr (.inl (some d)), .inl o] [] (mI h I) = some (mI h I, .inl (some (.inl (b01 (Gd J s o))))) := by
  have e := (D.1.1 o ho.1 ho.2).1
  rw [b38_0 L ho, e]
  by_cases q : lcI J s o = 1
  · rw [if_pos q, b38_10, b38_13 (Or.inr rfl), b01_t (p := Gd J s o) (Or.inl ((lc_1 W).mp q))]
  · have q2 : ¬GL J s o := fun r => q ((lc_1 W).mpr r)
    rw [if_neg q, b38_6 L, k36 L D M K P hs ho, caln_r, b38_9]
    by_cases r : HE J s o 1
    · rw [b01_t r, if_neg neg1_ne, b38_10, b38_13 (Or.inr rfl), b01_t (p := Gd J s o) (Or.inr r)]
    · rw [b01_f r, if_pos rfl, b38_12, b38_13 (Or.inl rfl), b01_f (fun t => t.elim q2 r)]
theorem k39 {h : HP} {I J : Nat → Int → Int} {d : Nat} {s o : Int} (L : LX 3 h d) (L4 : LX 4 h (d + 6)) (D : DC h I J d s) (M : PM J) (K : WK J) (W : WL J) (hs : s = 0 ∨ s = 1) (ho : 0 ≤ o ∧ o < 100) : Go 39 0 [.inr (.inl (some d)), .inl o] [] (mI h I) = some (mI h I, .inl (some (.inl (b01 (J 117 (120 * s + o) ≠ 0 ∨ Th J s o))))) := by
  have e : I (d + 10) o = J 117 (120 * s + o) := (D.2.2.1.1.2.2 o ho.1 ho.2).2.2
  rw [b39_0 L L4 ho, e]
  by_cases q : J 117 (120 * s + o) ≠ 0
  · rw [if_pos q, b39_10, b39_13 (Or.inr rfl), b01_t (Or.inl q)]
  · rw [if_neg q, b39_6 L, k37 L D M K W hs ho, caln_r, b39_9]
    by_cases r : Th J s o
    · rw [b01_t r, if_neg neg1_ne, b39_10, b39_13 (Or.inr rfl), b01_t (Or.inr r)]
    · rw [b01_f r, if_pos rfl, b39_12, b39_13 (Or.inl rfl), b01_f (fun t => t.elim q r)]
theorem k34 {h : HP} {I J : Nat → Int → Int} {d : Nat} {s : Int} {v1 v2 : MV} (L : LX 3 h d) (D : DC h I J d s) : Go 34 0 [.inr (.inl (some d)), v1, v2] [] (mI h I) = some (mI h I, .inl (some (.inl (pcN J s)))) := by
  have key := lpU (fun k => Go 34 4 [.inr (.inl (some d)), .inl (cN (fun i => J 109 (20 * s + i) ≠ 0) k.toNat), .inl k] [] (mI h I)) 0 20 (by decide) ?_
  · rw [b34_0]
    refine key.trans ?_
    rw [b34_4, if_pos (by decide), b34_20]
    rfl
  · intro k k0 k1
    have e := (D.1.2 k k0 k1).1
    have hb := cN_b (P := fun i => J 109 (20 * s + i) ≠ 0) k.toNat
    rw [b34_4, if_neg (by omega), b34_7 L (by omega), e, cN_s k0]
    by_cases q : J 109 (20 * s + k) = 0
    · rw [if_pos q, b34_15, b34_16 (by omega) (by omega), b01_f (fun r => r q)]
    · rw [if_neg q, b34_13, b34_16 (by omega) (by omega), b01_t q]
