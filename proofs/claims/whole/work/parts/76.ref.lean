/-! ===== the reference's methods (27): pack, packs, entries, size, base, pin ===== -/
theorem r248 {h : HP} {I : Nat → Int → Int} {v1 v2 : MV} (L : LX 11 h 94) (ht : 0 ≤ I 94 0 ∧ I 94 0 ≤ 120) : Go 248 0 [.inr (.inl (some 94)), v1, v2] [] (mI h I) = some (mI h I, .inl (some (.inl (cN (fun k => I 136 k ≠ 0) (I 94 0).toNat)))) := by
  have key := lpU (fun k => Go 248 4 [.inr (.inl (some 94)), .inl (cN (fun k => I 136 k ≠ 0) k.toNat), .inl k] [] (mI h I)) 0 (I 94 0) ht.1 ?_
  · rw [b248_0]
    refine Eq.trans key ?_
    rw [b248_4 L, if_pos (Int.le_refl _), b248_21]
  · intro k h0 h1
    have hc := cN_b (P := fun k => I 136 k ≠ 0) k.toNat
    rw [b248_4 L, if_neg (by omega), b248_8 L (by omega), cN_s h0]
    by_cases hz : I 136 k = 0
    · rw [if_pos hz, b248_16, b248_17 (by omega) (by omega), b01_f (p := I 136 k ≠ 0) (fun q => q hz)]
    · rw [if_neg hz, b248_14, b248_17 (by omega) (by omega), b01_t (p := I 136 k ≠ 0) hz]
/-- what is to be packed -/
def pkS (I : Nat → Int → Int) (s j : Int) : Prop := (0 ≤ j ∧ j < I 94 0) ∧ GL I s j ∧ ¬HE I s j 1
theorem r249a {h : HP} {I : Nat → Int → Int} {s win deep : Int} {v4 : MV} (L : LX 11 h 94) (W : WT I) (hs : s = 0 ∨ s = 1) (Z6 : ∃ P, S3 P ∧ I 136 = ind P) :
    Go 249 25 [.inr (.inl (some 94)), .inl s, .inl win, .inl deep, v4] [] (mI h I) = Go 249 54 [.inr (.inl (some 94)), .inl s, .inl win, .inl deep, .inl 120] [] (mI h (rowU I 136 (ind (pkS I s)))) := by
  have ht := WB_t W.1
  have hT := W.1.1
  obtain ⟨P, hP, eP⟩ := Z6
  have key := lpU (fun k => Go 249 27 [.inr (.inl (some 94)), .inl s, .inl win, .inl deep, .inl k] [] (mI h (rowU I 136 (fillR (I 136) 0 k (ind (pkS I s)))))) 0 120 (by omega) ?_
  · rw [fillR_0 (by omega), rowU_id] at key
    rw [b249_25, key, b249_27, if_pos (by decide), eP, fillR_ind hP (fun j q => by have := q.1; omega)]
  · intro k h0 h1
    have WK2 : ∀ f : Int → Int, WK (rowU I 136 f) := fun f => by rw [WK_U (by decide)]; exact W.2.2.2.1
    have WL2 : ∀ f : Int → Int, WL (rowU I 136 f) := fun f => by rw [WL_U (by decide)]; exact W.2.1
    have GL2 : ∀ f : Int → Int, GL (rowU I 136 f) = GL I := fun f => GL_U (by decide)
    have HE2 : ∀ f : Int → Int, HE (rowU I 136 f) = HE I := fun f => HE_U (by decide)
    have no : ¬pkS I s k → Go 249 50 [.inr (.inl (some 94)), .inl s, .inl win, .inl deep, .inl k] [.inl k, .inr (.inl (some 136))] (mI h (rowU I 136 (fillR (I 136) 0 k (ind (pkS I s))))) = Go 249 27 [.inr (.inl (some 94)), .inl s, .inl win, .inl deep, .inl (k + 1)] [] (mI h (rowU I 136 (fillR (I 136) 0 (k + 1) (ind (pkS I s))))) := by
      intro hn
      rw [b249_50, b249_51 L (by omega) (Or.inl rfl) (by omega), zu2_row, rowU_tw, rowU_eq, fillR_s h0 (b01_f hn).symm]
    rw [b249_27, if_neg (by omega), b249_30 L]
    simp only [rowU, Nat.reduceEqDiff, ↓reduceIte]
    by_cases q1 : I 94 0 ≤ k
    · rw [if_pos q1, no (fun q => by have := q.1; omega)]
    · rw [if_neg q1, b249_37 L, r180 L (WL2 _) hs (by omega), GL2, caln_r, b249_41]
      by_cases q2 : GL I s k
      · rw [b01_t q2, if_neg neg1_ne, b249_42 L, r178 L (WK2 _) hs, HE2, caln_r, b249_47]
        by_cases q3 : HE I s k 1
        · rw [b01_t q3, if_pos neg1_ne, no (fun q => q.2.2 q3)]
        · rw [b01_f q3, if_neg (fun q => q rfl), b249_48, b249_51 L (by omega) (Or.inr rfl) (by omega), zu2_row, rowU_tw, rowU_eq, fillR_s h0 (b01_t (p := pkS I s k) ⟨⟨h0, by omega⟩, q2, q3⟩).symm]
      · rw [b01_f q2, if_pos rfl, no (fun q => q2 q.2.1)]
theorem cN_136 {I : Nat → Int → Int} {P : Int → Prop} {n : Nat} (h : I 136 = ind P) : cN (fun k => I 136 k ≠ 0) n = cN P n := cN_c n (fun k _ _ => by rw [h, ne_eq, ind_at, Classical.not_not])
noncomputable def pkN (I : Nat → Int → Int) (s : Int) : Int := cN (pkS I s) (I 94 0).toNat
theorem r249 {h : HP} {I : Nat → Int → Int} {en_ : Int → Int} {s win deep : Int} {v4 : MV} (L : LX 11 h 94) (W : WT I) (D : NmD I) (X : WX I) (E : EnN I en_) (Z6 : ∃ P, S3 P ∧ I 136 = ind P) :
    ∃ e, (s = 0 ∨ s = 1 → (0 ≤ win ∧ win ≤ 8) ∧ 0 ≤ deep ∧ deep ≤ 8 → pkN I s > 0 → I 108 s < 20 → Enum (pkS I s) (KO I) (pkN I s) e ∧ PG (pkX (rowU (tH I 0) 136 (ind (pkS I s))) en_ e s win deep 0) (20 * s + I 108 s) (fun _ => False)) ∧
      Go 249 0 [.inr (.inl (some 94)), .inl s, .inl win, .inl deep, v4] [] (mI h I) = @ite _ (s = 0 ∨ s = 1) (Classical.propDecidable _) (@ite _ ((0 ≤ win ∧ win ≤ 8) ∧ 0 ≤ deep ∧ deep ≤ 8) (Classical.propDecidable _)
        (if pkN I s = 0 then some (mI h (rowU (tH I 0) 136 (ind (pkS I s))), .inl (some (.inl (-1)))) else aq h (I 108 s ≠ 20) (pkF (rowU (tH I 0) 136 (ind (pkS I s))) en_ e s win deep 0) (I 108 s) (rowU I 136 (ind (pkS I s))) 3)
        (some (mI h (tH I 2), .inl (some (.inl 0))))) (some (mI h (tH I 1), .inl (some (.inl 0)))) := by
  have bad : ∀ t : Int, 0 < t → Go 249 19 [.inr (.inl (some 94)), .inl s, .inl win, .inl deep, v4] [.inl t, .inr (.inl (some 94))] (mI h I) = some (mI h (tH I t), .inl (some (.inl 0))) := by
    intro t h0
    rw [b249_19 L, zu2_tI, tH_49, if_neg (by omega), b249_23]
  rw [b249_0, r164, caln_r, b249_3]
  by_cases hs : s = 0 ∨ s = 1
  · rw [b01_t hs, if_pos neg1_ne, b249_6, r163, caln_r, b249_10]
    simp only [if_pos hs]
    by_cases hw : 0 ≤ win ∧ win ≤ 8
    · rw [b01_t hw, if_neg neg1_ne, b249_11, r163, caln_r, b249_15]
      by_cases hd : 0 ≤ deep ∧ deep ≤ 8
      · have hc := (And.intro hw hd)
        simp only [if_pos hc]
        have W2 : WT (tH I 0) := by rw [WT_tH]; exact W
        have e94 : tH I 0 94 0 = I 94 0 := tH_94 (by decide)
        have eS : pkS (tH I 0) s = pkS I s := by
          funext j
          unfold pkS
          rw [e94]
          rfl
        have Z62 : ∃ P, S3 P ∧ tH I 0 136 = ind P := Z6
        rw [b01_t hd, if_pos neg1_ne, b249_18, b249_19 L, zu2_tI, tH_49, if_pos (by decide), r249a L W2 hs Z62, eS, b249_54 L]
        obtain ⟨J, hJ⟩ : ∃ J, J = rowU (tH I 0) 136 (ind (pkS I s)) := ⟨_, rfl⟩
        rw [← hJ]
        have J136 : J 136 = ind (pkS I s) := by rw [hJ, rowU_eq]
        have J94 : J 94 0 = I 94 0 := by rw [hJ, rowU_ne (by decide)]; exact e94
        have J108 : J 108 = I 108 := by rw [hJ]; rfl
        have htJ := WB_t W.1
        have eN : cN (fun k => J 136 k ≠ 0) (J 94 0).toNat = pkN I s := by rw [cN_136 J136, J94]; rfl
        have z1 : ∀ t, zu2 J 94 49 t = tH (rowU I 136 (ind (pkS I s))) t := fun t => by rw [zu2_tI, hJ, tH_rU (by decide), tH_tH, tH_rU (by decide)]
        have z0 : tH (rowU I 136 (ind (pkS I s))) 0 = J := by rw [hJ, tH_rU (by decide)]
        rw [r248 L (by rw [J94]; exact htJ), eN, caln_r, b249_56]
        have hcb := cN_b (P := pkS I s) (I 94 0).toNat
        have hNb : 0 ≤ pkN I s := hcb.1
        by_cases h0 : pkN I s = 0
        · refine ⟨fun _ => 0, fun _ _ q => absurd h0 (by omega), ?_⟩
          rw [if_pos (by omega), if_pos h0, b249_68, b249_69 L, z1, tH_49, if_pos (by decide), z0, b249_75, if_neg (fun q => q h0), b249_77, b249_85]
        · rw [if_neg (by omega)]
          simp only [if_neg h0]
          rw [b249_60 L (by omega), J108]
          by_cases hm : I 108 s = 20
          · refine ⟨fun _ => 0, fun _ _ _ q => by omega, ?_⟩
            rw [if_neg (fun q => q hm), aq_f (fun q => q hm), b249_66, b249_69 L, z1, tH_49, if_neg (by decide), b249_73, b249_85]
          · have hms := W.2.2.2.1.1 s hs
            have WJ : WT J := by
              rw [hJ]
              unfold WT
              rw [WB_U (by decide), WK_U (by decide)]
              exact W2
            have f98 : J 98 = I 98 := by rw [hJ]; rfl
            have DJ : NmD J := by
              unfold NmD
              rw [J94, f98]
              exact D
            have XJ : WX J := by
              unfold WX
              rw [J94, f98]
              exact X
            have EJ : EnN J en_ := by
              unfold EnN
              rw [J94, f98]
              exact E
            obtain ⟨e, q1, q2, q3, q4⟩ := r246 (h := h) (J := J) (en_ := en_) (s := s) (win := win) (deep := deep) (t := 0) (P := pkS I s) (v5 := vU) (v6 := vU) (v7 := vU) L WJ DJ XJ EJ hs (by omega) (Or.inl rfl) (by rw [J108]; omega) J136 (fun j q => by rw [J94]; exact q.1) (fun q => absurd rfl q)
            rw [J108] at q2 q4
            have hKO : KO J = KO I := by rw [hJ]; rfl
            rw [J94, hKO] at q1
            refine ⟨e, fun _ _ _ _ => ⟨q1, q2⟩, ?_⟩
            rw [if_pos hm, aq_t hm, b249_68, b249_69 L, z1, tH_49, if_pos (by decide), z0, b249_75, if_pos h0, b249_79 L, q4, caln_r, b249_85]
      · refine ⟨fun _ => 0, fun _ q => absurd q.2 hd, ?_⟩
        rw [b01_f hd, if_neg (fun q => q rfl), b249_16, bad 2 (by decide), if_neg (fun q => hd q.2)]
    · refine ⟨fun _ => 0, fun _ q => absurd q.1 hw, ?_⟩
      rw [b01_f hw, if_pos rfl, b249_16, bad 2 (by decide), if_neg (fun q => hw q.1)]
  · refine ⟨fun _ => 0, fun q => absurd q hs, ?_⟩
    rw [b01_f hs, if_neg (fun q => q rfl), b249_4, bad 1 (by decide), if_neg hs]
noncomputable def pcN (I : Nat → Int → Int) (s : Int) : Int := cN (fun i => I 109 (20 * s + i) ≠ 0) 20
theorem r250 {h : HP} {I : Nat → Int → Int} {s : Int} {v2 v3 v4 : MV} (L : LX 11 h 94) : Go 250 0 [.inr (.inl (some 94)), .inl s, v2, v3, v4] [] (mI h I) = aq h (s = 0 ∨ s = 1) (tH I 0) (pcN I s) I 1 := by
  rw [b250_0 L, r210 L]
  by_cases hs : s = 0 ∨ s = 1
  · rw [aq_t hs, aq_t hs, caln_r, b250_5]
    have key := lpU (fun k => Go 250 8 [.inr (.inl (some 94)), .inl s, .inl (cN (fun i => I 109 (20 * s + i) ≠ 0) k.toNat), .inl 1, .inl k] [] (mI h (tH I 0))) 0 20 (by omega) ?_
    · refine Eq.trans key ?_
      rw [b250_8, if_pos (by decide), b250_30]
      rfl
    · intro k h0 h1
      have hc := cN_b (P := fun i => I 109 (20 * s + i) ≠ 0) k.toNat
      rw [b250_8, if_neg (by omega), b250_11, if_neg neg1_ne, b250_13 L (by omega) (by omega) (by omega), tH_n (by decide), cN_s h0]
      by_cases hz : I 109 (20 * s + k) = 0
      · rw [if_pos hz, b250_25, b250_26 (by omega) (by omega), b01_f (p := I 109 (20 * s + k) ≠ 0) (fun q => q hz)]
      · rw [if_neg hz, b250_23, b250_26 (by omega) (by omega), b01_t (p := I 109 (20 * s + k) ≠ 0) hz]
  · rw [aq_f hs, aq_f hs, caln_r, b250_5, b250_8, if_neg (by decide), b250_11, if_pos rfl, b250_30]
def isP (I : Nat → Int → Int) (s x : Int) : Prop := (s = 0 ∨ s = 1) ∧ (0 ≤ x ∧ x ≤ 19) ∧ I 109 (20 * s + x) ≠ 0
theorem r251 {h : HP} {I : Nat → Int → Int} {s x : Int} (L : LX 11 h 94) : Go 251 0 [.inr (.inl (some 94)), .inl s, .inl x] [] (mI h I) = some (mI h I, .inl (some (.inl (b01 (isP I s x))))) := by
  have bad : ¬isP I s x → Go 251 19 [.inr (.inl (some 94)), .inl s, .inl x] [] (mI h I) = some (mI h I, .inl (some (.inl (b01 (isP I s x))))) := by
    intro q
    rw [b251_19, b251_20 (Or.inl rfl), b01_f q]
  rw [b251_0, r164, caln_r, b251_2]
  by_cases hs : s = 0 ∨ s = 1
  · rw [b01_t hs, if_neg neg1_ne, b251_3, r163, caln_r, b251_7]
    by_cases hx : 0 ≤ x ∧ x ≤ 19
    · rw [b01_t hx, if_neg neg1_ne, b251_8 L (by omega) (by omega) (by omega)]
      by_cases hz : I 109 (20 * s + x) = 0
      · rw [if_pos hz, bad (fun q => q.2.2 hz)]
      · rw [if_neg hz, b251_17, b251_20 (Or.inr rfl), b01_t (p := isP I s x) ⟨hs, hx, hz⟩]
    · rw [b01_f hx, if_pos rfl, bad (fun q => hx q.2.1)]
  · rw [b01_f hs, if_pos rfl, bad (fun q => hs q.1)]
theorem r252 {h : HP} {I : Nat → Int → Int} {s x : Int} (L : LX 11 h 94) : Go 252 0 [.inr (.inl (some 94)), .inl s, .inl x] [] (mI h I) = aq h (isP I s x) (tH I 0) (I 111 (20 * s + x)) I 1 := by
  rw [b252_0 L, r251 L, caln_r, b252_5]
  by_cases hq : isP I s x
  · have hs := hq.1
    have hx := hq.2.1
    rw [aq_t hq, b01_t hq, if_neg neg1_ne, b252_6, b252_9 L, zu2_tI, tH_49, if_pos (by decide), b252_15 L (by omega) (by omega) (by omega), b252_23, tH_n (by decide)]
  · rw [aq_f hq, b01_f hq, if_pos rfl, b252_8, b252_9 L, zu2_tI, tH_49, if_neg (by decide), b252_13, b252_23]
/-- the size of an entry -/
noncomputable def sz1 (I : Nat → Int → Int) (p k : Int) : Int := if I 113 (120 * p + k) < 0 then I 96 (I 112 (120 * p + k)) else dlt I (I 112 (120 * p + k)) (I 112 (120 * p + I 113 (120 * p + k)))
noncomputable def szN (I : Nat → Int → Int) (p : Int) : Nat → Int
  | 0 => 0
  | n + 1 => szN I p n + sz1 I p n
theorem szN_s {I : Nat → Int → Int} {p k : Int} (hk : 0 ≤ k) : szN I p (k + 1).toNat = szN I p k.toNat + sz1 I p k := by
  have : (k + 1).toNat = k.toNat + 1 := by omega
  have e1 : ((k.toNat : Nat) : Int) = k := Int.toNat_of_nonneg hk
  have hd : ∀ n : Nat, szN I p (n + 1) = szN I p n + sz1 I p n := fun _ => rfl
  rw [this, hd, e1]
theorem dlt_b {I : Nat → Int → Int} {o b : Int} (h1 : 0 ≤ I 96 o ∧ I 96 o ≤ 12) (h2 : 0 ≤ I 96 b ∧ I 96 b ≤ 12) : 2 ≤ dlt I o b ∧ dlt I o b ≤ 14 := by
  have hl : 0 ≤ lsI I o b ∧ lsI I o b ≤ I 96 o ∧ lsI I o b ≤ I 96 b := by
    unfold lsI
    split <;> omega
  have hh := pf_b (p := fun i => I 97 (12 * o + i) = I 97 (12 * b + i)) (lsI I o b).toNat 0
  have e0 : pf (fun i => I 97 (12 * o + i) = I 97 (12 * b + i)) (lsI I o b).toNat 0 = hdI I o b := rfl
  have ht := pf_b (p := fun i => I 97 (12 * o + I 96 o - 1 - i) = I 97 (12 * b + I 96 b - 1 - i)) (lsI I o b - hdI I o b).toNat 0
  have e3 : pf (fun i => I 97 (12 * o + I 96 o - 1 - i) = I 97 (12 * b + I 96 b - 1 - i)) (lsI I o b - hdI I o b).toNat 0 = tlI I o b := rfl
  rw [e0] at hh
  rw [e3] at ht
  unfold dlt
  omega
theorem szN_b {I : Nat → Int → Int} {p : Int} (W : WB I) (K : WK I) (hp : 0 ≤ p ∧ p < 40) : ∀ n : Nat, (n : Int) ≤ I 111 p → 0 ≤ szN I p n ∧ szN I p n ≤ 14 * n
  | 0, _ => by unfold szN; omega
  | n + 1, hn => by
    have ih := szN_b W K hp n (by omega)
    have hk := (K.2 p hp.1 hp.2).2 n (by omega) (by omega)
    have w1 := (W.2 _ hk.1.1 hk.1.2).1
    unfold szN sz1
    split
    · omega
    · have hk2 := (K.2 p hp.1 hp.2).2 (I 113 (120 * p + n)) (by omega) (by omega)
      have w2 := (W.2 _ hk2.1.1 hk2.1.2).1
      have := dlt_b (I := I) (o := I 112 (120 * p + n)) (b := I 112 (120 * p + I 113 (120 * p + n))) ⟨w1.2.2.1, w1.2.2.2.1⟩ ⟨w2.2.2.1, w2.2.2.2.1⟩
      omega
theorem r253 {h : HP} {I : Nat → Int → Int} {s x : Int} {v3 v4 v5 v6 v7 : MV} (L : LX 11 h 94) (W : WB I) (K : WK I) : Go 253 0 [.inr (.inl (some 94)), .inl s, .inl x, v3, v4, v5, v6, v7] [] (mI h I) = aq h (isP I s x) (tH I 0) (szN I (20 * s + x) (I 111 (20 * s + x)).toNat) I 1 := by
  have hT := W.1
  rw [b253_0 L, r251 L, caln_r, b253_5]
  by_cases hq : isP I s x
  · have hs := hq.1
    have hx := hq.2.1
    obtain ⟨p, hp⟩ : ∃ p, p = 20 * s + x := ⟨_, rfl⟩
    have hpr : 0 ≤ p ∧ p < 40 := by omega
    have hk := K.2 p hpr.1 hpr.2
    rw [aq_t hq, b01_t hq, if_neg neg1_ne, b253_6, b253_9 L, zu2_tI, tH_49, if_pos (by decide), b253_15 (by omega) (by omega), ← hp]
    have key := lpE (fun k (v : MV × MV) => Go 253 25 [.inr (.inl (some 94)), .inl s, .inl x, .inl p, .inl (szN I p k.toNat), .inl k, v.1, v.2] [] (mI h (tH I 0))) (fun _ _ => True) 0 (I 111 p) hk.1.1 ?_ (v6, v7) trivial
    · obtain ⟨⟨u6, u7⟩, e, -⟩ := key
      refine Eq.trans e ?_
      rw [b253_25 L hpr, tH_n (by decide), if_pos (Int.le_refl _), b253_72]
    · rintro k ⟨u6, u7⟩ k0 k1 -
      have hb := szN_b W K hpr k.toNat (by omega)
      have hb2 := szN_b W K hpr (k + 1).toNat (by omega)
      have hkk := hk.2 k k0 k1
      have w1 := (W.2 _ hkk.1.1 hkk.1.2).1
      rw [szN_s k0] at hb2
      refine ⟨(.inl (I 112 (120 * p + k)), .inl (I 113 (120 * p + k))), ?_, trivial⟩
      · dsimp only
        rw [b253_25 L hpr, tH_n (by decide), if_neg (by omega), b253_31 L (by omega) (by omega) (by omega), tH_n (by decide), tH_n (by decide), szN_s k0]
        unfold sz1 at hb2 ⊢
        by_cases hz : 0 ≤ I 113 (120 * p + k)
        · have hk2 := hk.2 (I 113 (120 * p + k)) (by omega) (by omega)
          have w2 := (W.2 _ hk2.1.1 hk2.1.2).1
          rw [if_neg (by omega)] at hb2
          have := dlt_b (I := I) (o := I 112 (120 * p + k)) (b := I 112 (120 * p + I 113 (120 * p + k))) ⟨w1.2.2.1, w1.2.2.2.1⟩ ⟨w2.2.2.1, w2.2.2.2.1⟩
          have e96 : tH I 0 96 = I 96 := tH_n (by decide)
          have ed : dlt (tH I 0) = dlt I := rfl
          rw [if_pos hz, if_neg (by omega), b253_57 L (by omega) (by omega) (by omega), tH_n (by decide), r242 L (by omega) (by omega) (by rw [e96]; exact ⟨w1.2.2.1, w1.2.2.2.1⟩) (by rw [e96]; exact ⟨w2.2.2.1, w2.2.2.2.1⟩), caln_r, ed, b253_68 (by omega) (by omega)]
        · rw [if_pos (by omega)] at hb2
          rw [if_neg hz, if_pos (by omega), b253_52 L (by omega), tH_n (by decide), b253_68 (by omega) (by omega)]
  · rw [aq_f hq, b01_f hq, if_pos rfl, b253_8, b253_9 L, zu2_tI, tH_49, if_neg (by decide), b253_13]
def bsJ (I : Nat → Int → Int) (p k : Int) : Int := if I 113 (120 * p + k) < 0 then -1 else I 98 (I 112 (120 * p + I 113 (120 * p + k)))
theorem r254 {h : HP} {I : Nat → Int → Int} {s x k : Int} {v4 v5 : MV} (L : LX 11 h 94) (K : WK I) (ht : 0 ≤ I 94 0 ∧ I 94 0 ≤ 120) : Go 254 0 [.inr (.inl (some 94)), .inl s, .inl x, .inl k, v4, v5] [] (mI h I) = aq h (isP I s x ∧ 0 ≤ k ∧ k < I 111 (20 * s + x)) (tH I 0) (bsJ I (20 * s + x) k) I 1 := by
  have bad : Go 254 22 [.inr (.inl (some 94)), .inl s, .inl x, .inl k, v4, v5] [.inr (.inl (some 94))] (mI h I) = some (mI h (tH I 1), .inl (some (.inl 0))) := by
    rw [b254_22, b254_23 L, zu2_tI, tH_49, if_neg (by decide), b254_27]
  rw [b254_0 L, r251 L, caln_r, b254_5]
  by_cases hq : isP I s x
  · have hs := hq.1
    have hx := hq.2.1
    have hk := K.2 (20 * s + x) (by omega) (by omega)
    rw [b01_t hq, if_neg neg1_ne, b254_6 L (by omega) (by omega) (by omega) (by omega), r163, caln_r, b254_19]
    by_cases hz : 0 ≤ k ∧ k < I 111 (20 * s + x)
    · have hkk := hk.2 k hz.1 hz.2
      rw [aq_t ⟨hq, hz⟩, b01_t (by omega), if_neg neg1_ne, b254_20, b254_23 L, zu2_tI, tH_49, if_pos (by decide), b254_29 (by omega) (by omega) (by omega) L (by omega) (by omega), tH_n (by decide)]
      unfold bsJ
      by_cases hb : 0 ≤ I 113 (120 * (20 * s + x) + k)
      · have hk2 := hk.2 (I 113 (120 * (20 * s + x) + k)) (by omega) (by omega)
        rw [if_pos hb, if_neg (by omega), b254_48 L (by omega) (by omega) (by rw [tH_n (by decide)]; omega), b254_57, tH_n (by decide), tH_n (by decide)]
      · rw [if_neg hb, if_pos (by omega), b254_46, b254_57]
    · rw [aq_f (fun q => hz q.2), b01_f (by omega), if_pos rfl, bad]
  · rw [aq_f (fun q => hq q.1), b01_f hq, if_pos rfl, bad]
noncomputable def pnJ (I : Nat → Int → Int) (s o : Int) : Nat → Int → Int := rowU I 127 (up1 (I 127) (120 * s + o) (b01 (I 127 (120 * s + o) = 0)))
theorem r255 {h : HP} {I : Nat → Int → Int} {s x : Int} {v3 : MV} (L : LX 11 h 94) (ht : 0 ≤ I 94 0 ∧ I 94 0 ≤ 120) : Go 255 0 [.inr (.inl (some 94)), .inl s, .inl x, v3] [] (mI h I) = aq h (qI I s x) (pnJ (tH I 0) s (fnd I x)) (b01 (I 127 (120 * s + fnd I x) = 0)) I 1 := by
  have hf := fnd_lt (I := I) (x := x) ht.1
  rw [b255_0 L, r208 L ht]
  by_cases hq : qI I s x
  · have hs := hq.1
    have hx := hq.2
    rw [aq_t hq, aq_t hq, caln_r, b255_4, if_pos neg1_ne, b255_7 (by omega) L, r165 L (by rw [tH_94 (by decide)]; exact ht), fnd_tH, caln_r, b255_13 (by omega) L (by omega)]
    have e7 : tH I 0 127 = I 127 := tH_n (by decide)
    rw [e7]
    unfold pnJ
    rw [e7]
    by_cases h7 : I 127 (120 * s + fnd I x) = 0
    · rw [if_neg (fun q => q h7), b255_23, b255_26 L (by omega) (Or.inr rfl) (by omega) (by rw [zu2_row, rowU_eq, up1_eq]; exact Or.inr rfl), zu2_row, rowU_eq, up1_eq, b01_t h7, e7]
    · rw [if_pos h7, b255_25, b255_26 L (by omega) (Or.inl rfl) (by omega) (by rw [zu2_row, rowU_eq, up1_eq]; exact Or.inl rfl), zu2_row, rowU_eq, up1_eq, b01_f h7, e7]
  · rw [aq_f hq, aq_f hq, caln_r, b255_4, if_neg (fun q => q rfl), b255_5]
