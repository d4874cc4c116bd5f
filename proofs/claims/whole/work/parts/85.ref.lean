/-! ===== the reference's methods (36): fetch, push, spoil, what is missing ===== -/
theorem WSc_t {I : Nat → Int → Int} {x : Int} (Sc : WSc I) : WSc (tH I x) := fun a h0 h1 => by rw [tH_n (by omega)]; exact Sc a h0 h1
def fRes (h : HP) (I Y : Nat → Int → Int) (en_ e : Int → Int) (u r l hf p c : Int) (q : Option (HP × OUT)) : Prop := q = @ite _ (f1 I u r ∧ f2 I u r l hf p) (Classical.propDecidable _) (some (mI h (nF (fP I Y en_ e u r l hf) u (1 - u) r (fN I u r l hf)), .inl (some (.inl (fN I u r l hf))))) (some (mI h (tH Y c), .inl (some (.inl 0))))
/-- the working memory of a fetch -/
def fW (I Y : Nat → Int → Int) (en_ e : Int → Int) (u r l hf p : Int) : Prop := (∀ a, a < 133 ∨ 138 < a → Y a = I a) ∧ WSc Y ∧ (f1 I u r → (Y 134 = ind (Wn I u (I 115 (6 * u + r)) l) ∧ Y 135 = ind (Hd I (1 - u)) ∧ Y 136 = ind (fS I u r l hf) ∧ Y 137 = ind (fS I u r l hf)) ∧ (f2 I u r l hf p → 0 < fN I u r l hf → fE I Y en_ e u r l hf))
theorem r266 {h : HP} {I : Nat → Int → Int} {en_ : Int → Int} {u r l hf : Int} (L : LX 11 h 94) (W : WT I) (V : WV I) (R : WR I) (Rk : WRk I) (D : NmD I) (X : WX I) (E : EnN I en_) (Sc : WSc I) (hb7 : ∀ j, I 117 j = 0 ∨ I 117 j = 1) (hlog : ∀ t, t = 0 ∨ t = 1 → 0 ≤ I 119 t ∧ I 119 t < 600) :
    ∃ Y e, ((u = 0 ∨ u = 1) ∧ (0 ≤ r ∧ r ≤ 5) → (0 ≤ l ∧ l ≤ 20) → fW (tH I 0) Y en_ e u r l hf 0) ∧ Go 266 0 [.inr (.inl (some 94)), .inl u, .inl r, .inl l, .inl hf] [] (mI h I) = @ite _ ((u = 0 ∨ u = 1) ∧ (0 ≤ r ∧ r ≤ 5)) (Classical.propDecidable _)
      (@ite _ (0 ≤ l ∧ l ≤ 20) (Classical.propDecidable _) (@ite _ (f1 (tH I 0) u r ∧ f2 (tH I 0) u r l hf 0) (Classical.propDecidable _) (some (mI h (nF (fP (tH I 0) Y en_ e u r l hf) u (1 - u) r (fN (tH I 0) u r l hf)), .inl (some (.inl (fN (tH I 0) u r l hf))))) (some (mI h (tH Y 3), .inl (some (.inl 0))))) (some (mI h (tH I 2), .inl (some (.inl 0))))) (some (mI h (tH I 1), .inl (some (.inl 0)))) := by
  have bad : ∀ t : Int, 0 < t → Go 266 17 [.inr (.inl (some 94)), .inl u, .inl r, .inl l, .inl hf] [.inl t, .inr (.inl (some 94))] (mI h I) = some (mI h (tH I t), .inl (some (.inl 0))) := by
    intro t h0
    rw [b266_17 L, zu2_tI, tH_49, if_neg (by omega), b266_21, b266_31]
  rw [b266_0, r164, caln_r, b266_3]
  by_cases hu : u = 0 ∨ u = 1
  · rw [b01_t hu, if_neg neg1_ne, b266_4, r216, caln_r, b266_6]
    by_cases hr : 0 ≤ r ∧ r ≤ 5
    · simp only [if_pos (And.intro hu hr)]
      rw [b01_t hr, if_pos neg1_ne, b266_9, r163, caln_r, b266_13]
      by_cases hl : 0 ≤ l ∧ l ≤ 20
      · simp only [if_pos hl]
        have g : AG I (tH I 0) := AG_t (AG_r I)
        obtain ⟨Y, e, q1, q2, q3, q4⟩ := r265 (h := h) (I := tH I 0) (en_ := en_) (u := u) (r := r) (l := l) (hf := hf) (c := 3) (p := 0) (v7 := vU) (v8 := vU) (v9 := vU) (v10 := vU) L (by rw [ag_WT g]; exact W) (by rw [ag_WV g]; exact V) (by rw [ag_WR g]; exact R) Rk (by rw [ag_NmD g]; exact D) (by rw [ag_WX g]; exact X) (by rw [ag_EnN g]; exact E) (WSc_t Sc) hb7 hu hr hl.1 (by decide) hlog
        refine ⟨Y, e, fun _ _ => ⟨q1, q2, q3⟩, ?_⟩
        rw [b01_t hl, if_neg neg1_ne, b266_14, b266_17 L, zu2_tI, tH_49, if_pos (by decide), b266_23 L, q4]
        by_cases hc : f1 (tH I 0) u r ∧ f2 (tH I 0) u r l hf 0
        · rw [if_pos hc, caln_r, b266_31]
        · rw [if_neg hc, caln_r, b266_31]
      · refine ⟨I, fun _ => 0, fun _ q => absurd q hl, ?_⟩
        rw [b01_f hl, if_pos rfl, b266_16, bad 2 (by decide), if_neg hl]
    · refine ⟨I, fun _ => 0, fun q => absurd q.2 hr, ?_⟩
      rw [b01_f hr, if_neg (fun q => q rfl), b266_7, bad 1 (by decide), if_neg (fun q => hr q.2)]
  · refine ⟨I, fun _ => 0, fun q => absurd q.1 hu, ?_⟩
    rw [b01_f hu, if_pos rfl, b266_7, bad 1 (by decide), if_neg (fun q => hu q.1)]
theorem r267 {h : HP} {I : Nat → Int → Int} {en_ : Int → Int} {u r : Int} (L : LX 11 h 94) (W : WT I) (V : WV I) (R : WR I) (Rk : WRk I) (D : NmD I) (X : WX I) (E : EnN I en_) (Sc : WSc I) (hb7 : ∀ j, I 117 j = 0 ∨ I 117 j = 1) (hlog : ∀ t, t = 0 ∨ t = 1 → 0 ≤ I 119 t ∧ I 119 t < 600) :
    ∃ Y e, ((u = 0 ∨ u = 1) ∧ (0 ≤ r ∧ r ≤ 5) → fW (tH I 0) Y en_ e u r 0 0 1) ∧ Go 267 0 [.inr (.inl (some 94)), .inl u, .inl r] [] (mI h I) = @ite _ ((u = 0 ∨ u = 1) ∧ (0 ≤ r ∧ r ≤ 5)) (Classical.propDecidable _)
      (@ite _ (f1 (tH I 0) u r ∧ f2 (tH I 0) u r 0 0 1) (Classical.propDecidable _) (some (mI h (nF (fP (tH I 0) Y en_ e u r 0 0) u (1 - u) r (fN (tH I 0) u r 0 0)), .inl (some (.inl (fN (tH I 0) u r 0 0))))) (some (mI h (tH Y 2), .inl (some (.inl 0))))) (some (mI h (tH I 1), .inl (some (.inl 0)))) := by
  have bad : ∀ t : Int, 0 < t → Go 267 10 [.inr (.inl (some 94)), .inl u, .inl r] [.inl t, .inr (.inl (some 94))] (mI h I) = some (mI h (tH I t), .inl (some (.inl 0))) := by
    intro t h0
    rw [b267_10 L, zu2_tI, tH_49, if_neg (by omega), b267_14, b267_24]
  rw [b267_0, r164, caln_r, b267_3]
  by_cases hu : u = 0 ∨ u = 1
  · rw [b01_t hu, if_neg neg1_ne, b267_4, r216, caln_r, b267_6]
    by_cases hr : 0 ≤ r ∧ r ≤ 5
    · simp only [if_pos (And.intro hu hr)]
      have g : AG I (tH I 0) := AG_t (AG_r I)
      obtain ⟨Y, e, q1, q2, q3, q4⟩ := r265 (h := h) (I := tH I 0) (en_ := en_) (u := u) (r := r) (l := 0) (hf := 0) (c := 2) (p := 1) (v7 := vU) (v8 := vU) (v9 := vU) (v10 := vU) L (by rw [ag_WT g]; exact W) (by rw [ag_WV g]; exact V) (by rw [ag_WR g]; exact R) Rk (by rw [ag_NmD g]; exact D) (by rw [ag_WX g]; exact X) (by rw [ag_EnN g]; exact E) (WSc_t Sc) hb7 hu hr (by decide) (by decide) hlog
      refine ⟨Y, e, fun _ => ⟨q1, q2, q3⟩, ?_⟩
      rw [b01_t hr, if_neg neg1_ne, b267_7, b267_10 L, zu2_tI, tH_49, if_pos (by decide), b267_16 L, q4]
      by_cases hc : f1 (tH I 0) u r ∧ f2 (tH I 0) u r 0 0 1
      · rw [if_pos hc, caln_r, b267_24]
      · rw [if_neg hc, caln_r, b267_24]
    · refine ⟨I, fun _ => 0, fun q => absurd q.2 hr, ?_⟩
      rw [b01_f hr, if_pos rfl, b267_9, bad 1 (by decide), if_neg (fun q => hr q.2)]
  · refine ⟨I, fun _ => 0, fun q => absurd q.1 hu, ?_⟩
    rw [b01_f hu, if_pos rfl, b267_9, bad 1 (by decide), if_neg (fun q => hu q.1)]
/-- a good entry of an object in a pack that is there -/
def Spk (I : Nat → Int → Int) (p o : Int) : Prop := I 109 p ≠ 0 ∧ 0 ≤ eo I p o ∧ I 114 (120 * p + eo I p o) = 0
noncomputable def sq (I : Nat → Int → Int) (s o : Int) : Int := lastP (fun i => Spk I (20 * s + i) o) (I 108 s).toNat
noncomputable def spL (I : Nat → Int → Int) (s o : Int) : Nat → Int → Int := if I 101 (120 * s + o) = 1 then zu2 I 103 (120 * s + o) 1 else zu2 I 107 (30 * s + I 101 (120 * s + o) - 2) 1
noncomputable def spE (I : Nat → Int → Int) (s o : Int) : Nat → Int → Int := zu2 I 114 (120 * (20 * s + sq I s o) + eo I (20 * s + sq I s o) o) 1
theorem r268 {h : HP} {I : Nat → Int → Int} {s x : Int} {v3 v4 v5 v6 v7 v8 : MV} (L : LX 11 h 94) (W : WT I) :
    Go 268 0 [.inr (.inl (some 94)), .inl s, .inl x, v3, v4, v5, v6, v7, v8] [] (mI h I) = @ite _ (qI I s x) (Classical.propDecidable _) (@ite _ (GL I s (fnd I x)) (Classical.propDecidable _) (some (mI h (tH (spL I s (fnd I x)) 0), .inl (some (.inl (-1)))))
      (aq h (0 ≤ sq I s (fnd I x)) (tH (spE I s (fnd I x)) 0) (sq I s (fnd I x)) I 2)) (some (mI h (tH I 1), .inl (some (.inl 0)))) := by
  have ht := WB_t W.1
  have hT := W.1.1
  have hf := fnd_lt (I := I) (x := x) ht.1
  rw [b268_0 L, r208 L ht]
  by_cases hq : qI I s x
  · have hs := hq.1
    have g : AG I (tH I 0) := AG_t (AG_r I)
    have W2 : WT (tH I 0) := by rw [WT_tH]; exact W
    obtain ⟨o, ho⟩ : ∃ o, o = fnd I x := ⟨_, rfl⟩
    have hor : 0 ≤ o ∧ o < I 94 0 := by rw [ho]; exact ⟨hq.2, hf.2.1⟩
    have e101 : tH I 0 101 = I 101 := tH_n (by decide)
    rw [aq_t hq, if_pos hq, caln_r, b268_4, if_pos neg1_ne, b268_7 L, r165 L (WB_t W2.1), fnd_t, ← ho, caln_r, b268_10 (by omega) (by omega) L, r180 L W2.2.1 hs (by omega), ag_GL g, caln_r, b268_21]
    by_cases hg : GL I s o
    · have h0 := hg.1
      have hb := W.2.1.2.2 (120 * s + o)
      rw [if_pos hg, b01_t hg, if_neg neg1_ne, b268_22 L (by omega), e101]
      unfold spL
      by_cases h1 : I 101 (120 * s + o) = 1
      · rw [if_neg (fun q => q h1), if_pos h1, b268_28 L (by omega), b268_48, tH_zu2 (by decide)]
      · rw [if_pos h1, if_neg h1, b268_34 L (by omega) (by omega) (by rw [e101]; omega) (by rw [e101]; omega) (by rw [e101]; omega), b268_48, e101, tH_zu2 (by decide)]
    · have hm := W.2.2.2.1.1 s hs
      have ee : ∀ p, eo (tH I 0) p o = eo I p o := fun p => rfl
      rw [if_neg hg, b01_f hg, if_pos rfl, b268_50 (by omega)]
      obtain ⟨Lp, hLp⟩ : ∃ Lp : Int → Int, Lp = fun i => lastP (fun i => Spk I (20 * s + i) o) i.toNat := ⟨_, rfl⟩
      have key := lpE (fun i (v : MV) => Go 268 58 [.inr (.inl (some 94)), .inl s, .inl x, .inl o, .inl (120 * s + o), .inl (if Lp i < 0 then -1 else 20 * s + Lp i), .inl (if Lp i < 0 then -1 else eo I (20 * s + Lp i) o), .inl (20 * s + i), v] [] (mI h (tH I 0))) (fun _ _ => True) 0 (I 108 s) hm.1 ?_ v8 trivial
      · obtain ⟨w, e, -⟩ := key
        have e00 : Lp 0 = -1 := by rw [hLp]; rfl
        rw [e00, if_pos (by decide), if_pos (by decide), Int.add_zero] at e
        have eL : Lp (I 108 s) = sq I s o := by rw [hLp]; rfl
        have hsq := lastP_lt (P := fun i => Spk I (20 * s + i) o) (I 108 s).toNat
        have hsq2 : -1 ≤ sq I s o ∧ sq I s o < I 108 s ∧ (0 ≤ sq I s o → Spk I (20 * s + sq I s o) o) := ⟨hsq.1, by have := hsq.2.1; rw [Int.toNat_of_nonneg hm.1] at this; exact this, hsq.2.2⟩
        rw [e, b268_58 (by omega) L (by omega) (by rw [tH_n (by decide)]; omega), tH_n (by decide), if_pos (Int.le_refl _), eL]
        by_cases hn : sq I s o < 0
        · rw [if_pos hn, if_pos hn, b268_97, if_neg (by decide), b268_100, b268_103 L, if_pos (by decide), zu2_tH, b268_115, if_neg (by decide), b268_117, b268_122, aq_f (show ¬ 0 ≤ sq I s o by omega)]
        · have h3 := hsq2.2.2 (by omega)
          have hpk := W.2.2.2.1.2 (20 * s + sq I s o) (by omega) (by omega)
          have heo := eo_b (I := I) (p := 20 * s + sq I s o) (o := o) hpk.1.1
          have h30 := h3.2.1
          rw [if_neg hn, if_neg hn, b268_97, if_pos (by omega), b268_102, b268_103 L, if_neg (by omega), zu2_tH, b268_106 L (by omega) (by omega) (by omega), b268_115, if_pos (by omega), b268_119 (by omega), b268_122, aq_t (show 0 ≤ sq I s o by omega), tH_zu2 (by decide), show (20 * s + sq I s o) % 20 = sq I s o by omega]
          rfl
      · intro i v i0 i1 _
        have hpk := W.2.2.2.1.2 (20 * s + i) (by omega) (by omega)
        have heo := eo_b (I := I) (p := 20 * s + i) (o := o) hpk.1.1
        have hL1 : Lp (i + 1) = @ite _ (Spk I (20 * s + i) o) (Classical.propDecidable _) i (Lp i) := by rw [hLp]; exact lastP_s i0
        have no : ∀ (x8 : Int), ¬Spk I (20 * s + i) o → ∃ v1 : MV, Go 268 95 [.inr (.inl (some 94)), .inl s, .inl x, .inl o, .inl (120 * s + o), .inl (if Lp i < 0 then -1 else 20 * s + Lp i), .inl (if Lp i < 0 then -1 else eo I (20 * s + Lp i) o), .inl (20 * s + i), .inl x8] [] (mI h (tH I 0)) = Go 268 58 [.inr (.inl (some 94)), .inl s, .inl x, .inl o, .inl (120 * s + o), .inl (if Lp (i + 1) < 0 then -1 else 20 * s + Lp (i + 1)), .inl (if Lp (i + 1) < 0 then -1 else eo I (20 * s + Lp (i + 1)) o), .inl (20 * s + (i + 1)), v1] [] (mI h (tH I 0)) ∧ True := by
          intro x8 hn
          refine ⟨.inl x8, ?_, trivial⟩
          rw [b268_95 (by omega), hL1, if_neg hn, Int.add_assoc]
        rw [b268_58 (by omega) L (by omega) (by rw [tH_n (by decide)]; omega), tH_n (by decide), if_neg (by omega), b268_68 L (by omega), tH_n (by decide)]
        by_cases q1 : I 109 (20 * s + i) = 0
        · rw [if_pos q1, b268_78, b268_79, if_pos (by decide)]
          exact no _ (fun q => q.1 q1)
        · rw [if_neg q1, b268_73 L, r244 L (by omega) (by rw [tH_n (by decide)]; omega), ee, caln_r, b268_77, b268_79]
          by_cases q2 : eo I (20 * s + i) o < 0
          · rw [if_pos q2]
            exact no _ (fun q => by have := q.2.1; omega)
          · rw [if_neg q2, b268_82 L (by omega) (by omega) (by omega), tH_n (by decide)]
            by_cases q3 : I 114 (120 * (20 * s + i) + eo I (20 * s + i) o) = 0
            · have hsp : Spk I (20 * s + i) o := ⟨q1, by omega, q3⟩
              refine ⟨.inl (eo I (20 * s + i) o), ?_, trivial⟩
              rw [if_neg (fun q => q q3), b268_91, b268_95 (by omega), hL1, if_pos hsp, if_neg (by omega), if_neg (by omega), Int.add_assoc]
            · rw [if_pos q3]
              exact no _ (fun q => q3 q.2.2)
  · rw [aq_f hq, if_neg hq, caln_r, b268_4, if_neg (fun q => q rfl), b268_5]
/-- what is missing -/
def Mi (I : Nat → Int → Int) (s j : Int) : Prop := Cl (Eg I s) (Rf I s) j ∧ ¬Gd I s j ∧ (Th I s j ∨ I 117 (120 * s + j) = 0)
theorem r269 {h : HP} {I : Nat → Int → Int} {s : Int} {v2 v3 : MV} (L : LX 11 h 94) (W : WT I) (Z : Z133 I) (R : WR I) (hs : s = 0 ∨ s = 1) : Go 269 0 [.inr (.inl (some 94)), .inl s, v2, v3] [] (mI h I) = some (mI h (rowU I 133 (ind (Mi I s))), .inl none) := by
  have ht := WB_t W.1
  have hT := W.1.1
  have hC : ∀ j, Cl (Eg I s) (Rf I s) j → 0 ≤ j ∧ j < I 94 0 := fun j q => Cl_lt W.1 (fun j ⟨k, a, b, c, d⟩ => by have := R k (by omega) (by omega); omega) j q
  rw [b269_0 L, r175 L W.1 Z R hs, caln_v, b269_3]
  obtain ⟨C, eC⟩ : ∃ C, C = Cl (Eg I s) (Rf I s) := ⟨_, rfl⟩
  obtain ⟨Q, hQ⟩ : ∃ Q : Int → Prop, Q = fun j => ¬Gd I s j ∧ (Th I s j ∨ I 117 (120 * s + j) = 0) := ⟨_, rfl⟩
  have eM : Mi I s = fun j => C j ∧ Q j := by rw [eC, hQ]; rfl
  rw [← eC] at hC ⊢
  have key := lpE (fun k (v : MV) => Go 269 5 [.inr (.inl (some 94)), .inl s, .inl k, v] [] (mI h (rowU I 133 (ind (fun j => C j ∧ (j < k → Q j)))))) (fun _ _ => True) 0 (I 94 0) ht.1 ?_ v3 trivial
  · obtain ⟨w, e, -⟩ := key
    rw [rowU_ind (P := fun j => C j ∧ (j < 0 → Q j)) (Q := C) (fun j => ⟨And.left, fun q => ⟨q, fun b => by have := hC j q; omega⟩⟩)] at e
    rw [e, b269_5 L]
    simp only [rowU, Nat.reduceEqDiff, ↓reduceIte]
    rw [if_pos (Int.le_refl _), b269_42, rowU_ind (P := fun j => C j ∧ (j < I 94 0 → Q j)) (Q := Mi I s) (fun j => by rw [eM]; exact ⟨fun q => ⟨q.1, q.2 (hC j q.1).2⟩, fun q => ⟨q.1, fun _ => q.2⟩⟩)]
  · intro k v k0 k1 _
    have WU : WT (rowU I 133 (ind (fun j => C j ∧ (j < k → Q j)))) := by rw [ag_WT (AG_U (AG_r I) (by decide))]; exact W
    have gU : AG I (rowU I 133 (ind (fun j => C j ∧ (j < k → Q j)))) := AG_U (AG_r I) (by decide)
    have e1 : rowU I 133 (ind (fun j => C j ∧ (j < k → Q j))) 133 k = b01 (C k) := by
      rw [rowU_eq]
      exact b01_c ⟨And.left, fun q => ⟨q, fun b => by omega⟩⟩
    have fin : ∀ (w : Int) (q : Prop), w = b01 q → (q ↔ Q k) → ∃ v1 : MV, Go 269 31 [.inr (.inl (some 94)), .inl s, .inl k, v] [.inl w] (mI h (rowU I 133 (ind (fun j => C j ∧ (j < k → Q j))))) = Go 269 5 [.inr (.inl (some 94)), .inl s, .inl (k + 1), v1] [] (mI h (rowU I 133 (ind (fun j => C j ∧ (j < k + 1 → Q j))))) ∧ True := by
      intro w q hw hq
      refine ⟨.inl w, ?_, trivial⟩
      rw [b269_31 L (by omega) (by rw [e1, hw, zand_b]; exact b01_or _) (by omega), e1, hw, zand_b, zu2_row, rowU_tw, rowU_eq]
      congr 3
      congr 1
      funext j
      unfold up1
      by_cases hj : j = k
      · subst hj
        rw [if_pos rfl]
        exact b01_c ⟨fun c => ⟨c.1, fun _ => hq.mp c.2⟩, fun c => ⟨c.1, hq.mpr (c.2 (by omega))⟩⟩
      · rw [if_neg hj]
        exact b01_c ⟨fun c => ⟨c.1, fun b => c.2 (by omega)⟩, fun c => ⟨c.1, fun b => c.2 (by omega)⟩⟩
    have h1 : (1 : Int) = b01 True := (b01_t trivial).symm
    have h0 : (0 : Int) = b01 False := (b01_f (fun q => q)).symm
    rw [b269_5 L]
    simp only [rowU, Nat.reduceEqDiff, ↓reduceIte]
    rw [if_neg (by omega), b269_9 L, r181 L WU.2.2.2.1 WU.2.1 hs (by omega), ag_Gd gU, caln_r, b269_13]
    by_cases q1 : Gd I s k
    · rw [b01_t q1, if_pos neg1_ne, b269_30]
      exact fin 0 False h0 ⟨False.elim, fun q => by rw [hQ] at q; exact q.1 q1⟩
    · rw [b01_f q1, if_neg (fun q => q rfl), b269_14 L, r179 L WU.2.2.2.1 hs (by omega), ag_Th gU, caln_r, b269_18]
      by_cases q2 : Th I s k
      · rw [b01_t q2, if_pos neg1_ne, b269_28]
        exact fin 1 True h1 ⟨fun _ => by rw [hQ]; exact ⟨q1, Or.inl q2⟩, fun _ => trivial⟩
      · rw [b01_f q2, if_neg (fun q => q rfl), b269_19 L (by omega) (by omega) (by omega)]
        simp only [rowU, Nat.reduceEqDiff, ↓reduceIte]
        by_cases q3 : I 117 (120 * s + k) = 0
        · rw [if_neg (fun q => q q3), b269_28]
          exact fin 1 True h1 ⟨fun _ => by rw [hQ]; exact ⟨q1, Or.inr q3⟩, fun _ => trivial⟩
        · rw [if_pos q3, b269_30]
          exact fin 0 False h0 ⟨False.elim, fun q => by rw [hQ] at q; exact q.2.elim q2 q3⟩
theorem r270 {h : HP} {I : Nat → Int → Int} {s : Int} (L : LX 11 h 94) (W : WT I) (Z : ∃ P, S3 P ∧ I 133 = ind P) (R : WR I) : Go 270 0 [.inr (.inl (some 94)), .inl s] [] (mI h I) = aq h (s = 0 ∨ s = 1) (rowU (tH I 0) 133 (ind (Mi I s))) (cN (Mi I s) (I 94 0).toNat) I 1 := by
  rw [b270_0 L, r210 L]
  by_cases hs : s = 0 ∨ s = 1
  · have g : AG I (tH I 0) := AG_t (AG_r I)
    have eM : Mi (tH I 0) = Mi I := by
      unfold Mi
      rw [ag_Eg g, ag_Rf g, ag_Gd g, ag_Th g]
      rfl
    have W2 : WT (tH I 0) := by rw [WT_tH]; exact W
    rw [aq_t hs, aq_t hs, caln_r, b270_3, if_pos neg1_ne, b270_6 L, r269 L W2 (Z_S3 (I := tH I 0) Z) (by rw [WR_t]; exact R) hs, eM, caln_v, b270_9 L, r237 L (by simp only [rowU, Nat.reduceEqDiff, ↓reduceIte]; exact WB_t W2.1), caln_r, b270_11, cN_ind]
    simp only [rowU, Nat.reduceEqDiff, ↓reduceIte]
    rw [ag_0 g]
  · rw [aq_f hs, aq_f hs, caln_r, b270_3, if_neg (fun q => q rfl), b270_4]
