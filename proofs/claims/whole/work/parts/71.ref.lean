/-! ===== the reference's methods (22): walk, walkAt, choose, reach ===== -/
def p4 (I : Nat → Int → Int) (x y : Int) : Prop := kI I x 2 ∧ (y = -1 ∨ kI I y 2)
/-- what holds of the memory also holds when only what was thrown is told anew -/
theorem fnd_t {I : Nat → Int → Int} {t : Int} : fnd (tH I t) = fnd I := funext (fun _ => fnd_tH)
theorem kI_t {I : Nat → Int → Int} {t : Int} : kI (tH I t) = kI I := by
  funext a c
  unfold kI
  rw [fnd_t]
  rfl
theorem WV_t {I : Nat → Int → Int} {t : Int} : WV (tH I t) = WV I := by
  unfold WV Lk atR
  rw [fnd_t, tH_94 (by decide)]
  rfl
theorem Vs_t {I : Nat → Int → Int} {t : Int} : Vs (tH I t) = Vs I := by
  funext j
  unfold Vs
  rw [tH_94 (by decide)]
  rfl
theorem Es_t {I : Nat → Int → Int} {t : Int} : Es (tH I t) = Es I := by
  unfold Es Sb sa atR
  rw [fnd_t]
  rfl
theorem Eg_t {I : Nat → Int → Int} {t : Int} : Eg (tH I t) = Eg I := by
  unfold Eg Lk atR
  rw [fnd_t]
  rfl
theorem Wh_t {I : Nat → Int → Int} {t : Int} : Wh (tH I t) = Wh I := by
  unfold Wh
  rw [Eg_t]
  rfl
theorem AC_t {I : Nat → Int → Int} {t : Int} : AC (tH I t) = AC I := by
  unfold AC
  rw [Vs_t, Es_t]
theorem NmD_t {I : Nat → Int → Int} {t : Int} : NmD (tH I t) = NmD I := by
  unfold NmD
  rw [tH_94 (by decide)]
  rfl
theorem Z_S3 {I : Nat → Int → Int} (q : ∃ P, S3 P ∧ I 133 = ind P) : Z133 I := by
  obtain ⟨P, h, e⟩ := q
  have : I = rowU I 133 (ind P) := by
    rw [← e]
    exact (rowU_id I 133).symm
  rw [this]
  exact Z133_i h
theorem r232 {h : HP} {I : Nat → Int → Int} {s x y : Int} {v4 v5 : MV} (L : LX 11 h 94) (W : WT I) (V : WV I) (A : AC I) (D : NmD I) (Z : ∃ P, S3 P ∧ I 133 = ind P) (Z7 : ∃ Q, S3 Q ∧ I 137 = ind Q) :
    ∃ K c, (p1 I s x y → p4 I x y → Wk (tH I 0) s x y K c) ∧ Go 232 0 [.inr (.inl (some 94)), .inl s, .inl x, .inl y, v4, v5] [] (mI h I) = @ite _ (p1 I s x y) (Classical.propDecidable _) (aq h (p4 I x y) K c I 2) (some (mI h (tH I 1), .inl (some (.inl 0)))) := by
  have ht := WB_t W.1
  have bad : Go 232 14 [.inr (.inl (some 94)), .inl s, .inl x, .inl y, v4, v5] [.inr (.inl (some 94))] (mI h I) = some (mI h (tH I 1), .inl (some (.inl 0))) := by
    rw [b232_14, b232_15 L, zu2_tI, tH_49, if_neg (by decide), b232_19]
  rw [b232_0, r164, caln_r, b232_3]
  by_cases hs : s = 0 ∨ s = 1
  · rw [b01_t hs, if_neg neg1_ne, b232_4 L, r166 L ht, caln_r, b232_7]
    by_cases hx : 0 ≤ fnd I x
    · rw [b01_t hx, if_neg neg1_ne, b232_8 L, r167 L ht, caln_r, b232_11]
      by_cases hy : y = -1 ∨ 0 ≤ fnd I y
      · rw [b01_t hy, if_neg neg1_ne, b232_12, b232_15 L, zu2_tI, tH_49, if_pos (by decide)]
        simp only [if_pos (show p1 I s x y from ⟨hs, hx, hy⟩)]
        have W2 : WT (tH I 0) := by rw [WT_tH]; exact W
        have ht2 := WB_t W2.1
        have bad2 : Go 232 37 [.inr (.inl (some 94)), .inl s, .inl x, .inl y, v4, v5] [.inr (.inl (some 94))] (mI h (tH I 0)) = some (mI h (tH I 2), .inl (some (.inl 0))) := by
          rw [b232_37, b232_38 L, zu2_tH, tH_49, if_neg (by decide), b232_42]
        have ok : p4 I x y → ∃ K c, Wk (tH I 0) s x y K c ∧ Go 232 35 [.inr (.inl (some 94)), .inl s, .inl x, .inl y, v4, v5] [.inr (.inl (some 94))] (mI h (tH I 0)) = some (mI h K, .inl (some (.inl c))) := by
          intro q
          rw [b232_35, b232_38 L, zu2_tH, tH_49, if_pos (by decide)]
          exact r232a L W2.1 W2.2.2.1 (by rw [WV_t]; exact V) (by rw [AC_t]; exact A) (by rw [NmD_t]; exact D) W2.2.2.2.2.2.2 (Z_S3 (I := tH I 0) Z) Z7 hs (by rw [kI_t]; exact q.1) (by rw [kI_t]; exact q.2)
        rw [b232_21 L, r168 L ht2, caln_r, b232_26]
        by_cases q1 : kI (tH I 0) x 2
        · rw [b01_t (show 0 ≤ fnd (tH I 0) x ∧ tH I 0 95 (fnd (tH I 0) x) = 2 from q1), if_neg neg1_ne, b232_27]
          by_cases h1 : y = -1
          · have c4 : p4 I x y := ⟨by rw [← kI_t (t := 0)]; exact q1, Or.inl h1⟩
            obtain ⟨K, c, w, e⟩ := ok c4
            exact ⟨K, c, fun _ _ => w, by rw [if_pos h1, aq_t c4]; exact e⟩
          · rw [if_neg h1, b232_30 L, r168 L ht2, caln_r, b232_34]
            by_cases q2 : kI (tH I 0) y 2
            · have c4 : p4 I x y := ⟨by rw [← kI_t (t := 0)]; exact q1, Or.inr (by rw [← kI_t (t := 0)]; exact q2)⟩
              obtain ⟨K, c, w, e⟩ := ok c4
              exact ⟨K, c, fun _ _ => w, by rw [b01_t (show 0 ≤ fnd (tH I 0) y ∧ tH I 0 95 (fnd (tH I 0) y) = 2 from q2), if_neg neg1_ne, aq_t c4]; exact e⟩
            · have c4 : ¬p4 I x y := fun q => q2 (by rw [kI_t]; exact q.2.resolve_left h1)
              exact ⟨I, 0, fun _ q => absurd q c4, by rw [b01_f (show ¬(0 ≤ fnd (tH I 0) y ∧ tH I 0 95 (fnd (tH I 0) y) = 2) from q2), if_pos rfl, bad2, aq_f c4]⟩
        · have c4 : ¬p4 I x y := fun q => q1 (by rw [kI_t]; exact q.1)
          exact ⟨I, 0, fun _ q => absurd q c4, by rw [b01_f (show ¬(0 ≤ fnd (tH I 0) x ∧ tH I 0 95 (fnd (tH I 0) x) = 2) from q1), if_pos rfl, bad2, aq_f c4]⟩
      · refine ⟨I, 0, fun q => absurd q.2.2 hy, ?_⟩
        rw [b01_f hy, if_pos rfl, bad, if_neg (fun q => hy q.2.2)]
    · refine ⟨I, 0, fun q => absurd q.2.1 hx, ?_⟩
      rw [b01_f hx, if_pos rfl, bad, if_neg (fun q => hx q.2.1)]
  · refine ⟨I, 0, fun q => absurd q.1 hs, ?_⟩
    rw [b01_f hs, if_pos rfl, bad, if_neg (fun q => hs q.1)]
theorem r233 {h : HP} {I : Nat → Int → Int} {x : Int} (L : LX 11 h 94) (hw : 0 ≤ I 94 41 ∧ I 94 41 ≤ 120) : Go 233 0 [.inr (.inl (some 94)), .inl x] [] (mI h I) = aq h (0 ≤ x ∧ x < I 94 41) (tH I 0) (I 132 x) I 1 := by
  rw [b233_0 L (by omega), r163, caln_r, b233_8]
  by_cases hx : 0 ≤ x ∧ x < I 94 41
  · rw [aq_t hx, b01_t (by omega), if_neg neg1_ne, b233_9, b233_12 L, zu2_tI, tH_49, if_pos (by decide), b233_18 L (by omega), b233_22, tH_n (by decide)]
  · rw [aq_f hx, b01_f (by omega), if_pos rfl, b233_11, b233_12 L, zu2_tI, tH_49, if_neg (by decide), b233_16, b233_22]
/-- how many are chosen -/
noncomputable def chN (I : Nat → Int → Int) (s : Int) : Int := cN (fun i => I 128 (120 * s + i) ≠ 0) 120
theorem r234 {h : HP} {I : Nat → Int → Int} {s : Int} {v2 v3 : MV} (L : LX 11 h 94) (hs : s = 0 ∨ s = 1) : Go 234 0 [.inr (.inl (some 94)), .inl s, v2, v3] [] (mI h I) = some (mI h I, .inl (some (.inl (chN I s)))) := by
  have key := lpU (fun i => Go 234 6 [.inr (.inl (some 94)), .inl s, .inl (cN (fun i => I 128 (120 * s + i) ≠ 0) i.toNat), .inl (120 * s + i)] [] (mI h I)) 0 120 (by omega) ?_
  · rw [Int.add_zero] at key
    rw [b234_0 (by omega)]
    refine Eq.trans key ?_
    rw [b234_6 (by omega) (by omega), if_pos (Int.le_refl _), b234_26]
    rfl
  · intro i h0 h1
    have hc := cN_b (P := fun i => I 128 (120 * s + i) ≠ 0) i.toNat
    rw [b234_6 (by omega) (by omega), if_neg (by omega), b234_13 L (by omega), cN_s h0]
    by_cases hz : I 128 (120 * s + i) = 0
    · rw [if_pos hz, b234_21, b234_22 (by omega) (by omega), b01_f (p := I 128 (120 * s + i) ≠ 0) (fun q => q hz), Int.add_assoc]
    · rw [if_neg hz, b234_19, b234_22 (by omega) (by omega), b01_t (p := I 128 (120 * s + i) ≠ 0) hz, Int.add_assoc]
theorem r236 {h : HP} {I : Nat → Int → Int} {s : Int} (L : LX 11 h 94) : Go 236 0 [.inr (.inl (some 94)), .inl s] [] (mI h I) = aq h (s = 0 ∨ s = 1) (tH I 0) (chN I s) I 1 := by
  rw [b236_0 L, r210 L]
  by_cases hs : s = 0 ∨ s = 1
  · rw [aq_t hs, aq_t hs, caln_r, b236_3, if_neg neg1_ne, b236_4 L, r234 L hs, caln_r, b236_7, b236_9]
    rfl
  · rw [aq_f hs, aq_f hs, caln_r, b236_3, if_pos rfl, b236_8, b236_9]
theorem r237 {h : HP} {I : Nat → Int → Int} {v1 v2 : MV} (L : LX 11 h 94) (ht : 0 ≤ I 94 0 ∧ I 94 0 ≤ 120) : Go 237 0 [.inr (.inl (some 94)), v1, v2] [] (mI h I) = some (mI h I, .inl (some (.inl (cN (fun k => I 133 k ≠ 0) (I 94 0).toNat)))) := by
  have key := lpU (fun k => Go 237 4 [.inr (.inl (some 94)), .inl (cN (fun k => I 133 k ≠ 0) k.toNat), .inl k] [] (mI h I)) 0 (I 94 0) ht.1 ?_
  · rw [b237_0]
    refine Eq.trans key ?_
    rw [b237_4 L, if_pos (Int.le_refl _), b237_21]
  · intro k h0 h1
    have hc := cN_b (P := fun k => I 133 k ≠ 0) k.toNat
    rw [b237_4 L, if_neg (by omega), b237_8 L (by omega), cN_s h0]
    by_cases hz : I 133 k = 0
    · rw [if_pos hz, b237_16, b237_17 (by omega) (by omega), b01_f (p := I 133 k ≠ 0) (fun q => q hz)]
    · rw [if_neg hz, b237_14, b237_17 (by omega) (by omega), b01_t (p := I 133 k ≠ 0) hz]
theorem cN_ind {I : Nat → Int → Int} {P : Int → Prop} {n : Nat} : cN (fun k => rowU I 133 (ind P) 133 k ≠ 0) n = cN P n := cN_c n (fun k _ _ => by rw [rowU_eq, ne_eq, ind_at, Classical.not_not])
/-- how many objects an object leads to -/
noncomputable def rcN (I : Nat → Int → Int) (s o : Int) : Int := cN (Cl (Eg I s) (fun j => j = o)) (I 94 0).toNat
theorem r238 {h : HP} {I : Nat → Int → Int} {s x : Int} (L : LX 11 h 94) (W : WT I) (Z : ∃ P, S3 P ∧ I 133 = ind P) : Go 238 0 [.inr (.inl (some 94)), .inl s, .inl x] [] (mI h I) = aq h (qI I s x) (rowU (tH I 0) 133 (ind (Cl (Eg I s) (fun j => j = fnd I x)))) (rcN I s (fnd I x)) I 1 := by
  have ht := WB_t W.1
  have hf := fnd_lt (I := I) (x := x) ht.1
  have W2 : WT (tH I 0) := by rw [WT_tH]; exact W
  rw [b238_0 L, r208 L ht]
  by_cases hq : qI I s x
  · have e0 : tH I 0 94 0 = I 94 0 := tH_94 (by decide)
    rw [aq_t hq, aq_t hq, caln_r, b238_4, if_pos neg1_ne, b238_7 L, r165 L (WB_t W2.1), fnd_t, caln_r, b238_12 L, r174 L W2.1 (Z_S3 (I := tH I 0) Z) hq.1 (by rw [e0]; exact ⟨hq.2, hf.2.1⟩), Eg_t, caln_v, b238_13 L, r237 L (by simp only [rowU, Nat.reduceEqDiff, ↓reduceIte]; exact WB_t W2.1), caln_r, b238_15, cN_ind]
    simp only [rowU, Nat.reduceEqDiff, ↓reduceIte]
    rw [e0]
    rfl
  · rw [aq_f hq, aq_f hq, caln_r, b238_4, if_neg (fun q => q rfl), b238_5]
theorem r239 {h : HP} {I : Nat → Int → Int} {s x : Int} (L : LX 11 h 94) (W : WT I) (Z : ∃ P, S3 P ∧ I 133 = ind P) : Go 239 0 [.inr (.inl (some 94)), .inl s, .inl x] [] (mI h I) = aq h (qI I s x) (rowU (tH I 0) 133 (ind (Cl (Eg I s) (fun j => j = fnd I x)))) (rcN I s (fnd I x)) I 1 := by
  rw [b239_0 L, r238 L W Z]
  by_cases hq : qI I s x
  · rw [aq_t hq, caln_r, b239_4]
  · rw [aq_f hq, caln_r, b239_4]
theorem r240 {h : HP} {I : Nat → Int → Int} {s x : Int} (L : LX 11 h 94) (W : WT I) (Z : ∃ P, S3 P ∧ I 133 = ind P) : Go 240 0 [.inr (.inl (some 94)), .inl s, .inl x] [] (mI h I) = aq h (qI I s x) (rowU (tH I 0) 133 (ind (Cl (Eg I s) (fun j => j = fnd I x)))) (rcN I s (fnd I x)) I 1 := by
  rw [b240_0 L, r238 L W Z]
  by_cases hq : qI I s x
  · rw [aq_t hq, caln_r, b240_4]
  · rw [aq_f hq, caln_r, b240_4]
def chO (I : Nat → Int → Int) (s o : Int) : Prop := Wh I s o ∧ I 128 (120 * s + o) = 0 ∧ chN I s ≠ 4
def chJ (X : Nat → Int → Int) (s o : Int) : Nat → Int → Int := rowU X 128 (up1 (X 128) (120 * s + o) 1)
theorem r235 {h : HP} {I : Nat → Int → Int} {s x : Int} {v3 : MV} (L : LX 11 h 94) (W : WT I) (Z : ∃ P, S3 P ∧ I 133 = ind P) :
    ∃ P, S3 P ∧ Go 235 0 [.inr (.inl (some 94)), .inl s, .inl x, v3] [] (mI h I) = @ite _ (qI I s x) (Classical.propDecidable _) (@ite _ (I 95 (fnd I x) = 2) (Classical.propDecidable _) (aq h (chO I s (fnd I x)) (chJ (rowU (tH I 0) 133 (ind P)) s (fnd I x)) (chN (chJ I s (fnd I x)) s) (rowU I 133 (ind P)) 3) (some (mI h (tH I 2), .inl (some (.inl 0))))) (some (mI h (tH I 1), .inl (some (.inl 0)))) := by
  have ht := WB_t W.1
  have hf := fnd_lt (I := I) (x := x) ht.1
  have W2 : WT (tH I 0) := by rw [WT_tH]; exact W
  have e0 : tH I 0 94 0 = I 94 0 := tH_94 (by decide)
  rw [b235_0 L, r208 L ht]
  by_cases hq : qI I s x
  · have hs := hq.1
    have ho : 0 ≤ fnd I x ∧ fnd I x < I 94 0 := ⟨hq.2, hf.2.1⟩
    simp only [if_pos hq]
    rw [aq_t hq, caln_r, b235_4, if_pos neg1_ne, b235_7 L, r165 L (WB_t W2.1), fnd_t, caln_r, b235_10 L (by omega), tH_n (by decide)]
    by_cases h2 : I 95 (fnd I x) = 2
    · have hS3 : S3 (Cl (Eg I s) (fun j => j = fnd I x)) := S3_l W.1 (Cl_lt W.1 (fun j q => by rw [q]; exact ho))
      refine ⟨_, hS3, ?_⟩
      rw [if_pos h2, if_pos h2, b235_20 L, r182 L W2.1 W2.2.2.2.1 (Z_S3 (I := tH I 0) Z) hs (by rw [e0]; exact ho), Eg_t, Wh_t, caln_r, b235_24]
      obtain ⟨P, hP⟩ : ∃ P, P = Cl (Eg I s) (fun j => j = fnd I x) := ⟨_, rfl⟩
      rw [← hP]
      have z1 : ∀ t, zu2 (rowU (tH I 0) 133 (ind P)) 94 49 t = tH (rowU I 133 (ind P)) t := fun t => by rw [zu2_tI, tH_rU (by decide), tH_tH, tH_rU (by decide)]
      have bad : ¬chO I s (fnd I x) → Go 235 39 [.inr (.inl (some 94)), .inl s, .inl x, .inl (fnd I x)] [.inr (.inl (some 94))] (mI h (rowU (tH I 0) 133 (ind P))) = aq h (chO I s (fnd I x)) (chJ (rowU (tH I 0) 133 (ind P)) s (fnd I x)) (chN (chJ I s (fnd I x)) s) (rowU I 133 (ind P)) 3 := by
        intro q
        rw [aq_f q, b235_39, b235_42 L, z1, tH_49, if_neg (by decide), b235_46]
      by_cases hw : Wh I s (fnd I x)
      · rw [b01_t hw, if_neg neg1_ne, b235_25 L (by omega) (by omega) (by omega)]
        simp only [rowU, Nat.reduceEqDiff, ↓reduceIte]
        rw [tH_n (by decide)]
        by_cases hc : I 128 (120 * s + fnd I x) = 0
        · rw [if_neg (fun q => q hc), b235_34 L, r234 L hs, caln_r, b235_37]
          have ec : chN (rowU (tH I 0) 133 (ind P)) s = chN I s := rfl
          rw [ec]
          by_cases h4 : chN I s = 4
          · rw [if_neg (fun q => q h4), bad (fun q => q.2.2 h4)]
          · rw [if_pos h4, aq_t (show chO I s (fnd I x) from ⟨hw, hc, h4⟩), b235_41, b235_42 L, z1, tH_49, if_pos (by decide), b235_48 L (by omega) (by omega) (by omega), r234 L hs, caln_r, b235_60, zu2_row]
            have ee : tH (rowU I 133 (ind P)) 0 = rowU (tH I 0) 133 (ind P) := tH_rU (by decide)
            rw [ee]
            rfl
        · rw [if_pos hc, bad (fun q => hc q.2.1)]
      · rw [b01_f hw, if_pos rfl, bad (fun q => hw q.1)]
    · obtain ⟨P, hP, _⟩ := Z
      refine ⟨P, hP, ?_⟩
      rw [if_neg h2, if_neg h2, b235_18, b235_42 L, zu2_tH, tH_49, if_neg (by decide), b235_46]
  · obtain ⟨P, hP, _⟩ := Z
    refine ⟨P, hP, ?_⟩
    rw [aq_f hq, if_neg hq, caln_r, b235_4, if_neg (fun q => q rfl), b235_5]
