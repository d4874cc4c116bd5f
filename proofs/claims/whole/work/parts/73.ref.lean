/-! ===== the reference's methods (24): one object into a pack ===== -/
theorem Enum_ex {S : Int → Prop} {A : Int → Int → Prop} {n : Int} (t : TO S A) (hS : ∀ j, S j → 0 ≤ j ∧ j < n) (hn : 0 ≤ n) : ∃ e, Enum S A (cN S n.toNat) e := by
  obtain ⟨e, _, _, q, _⟩ := lpSel (R := Unit) (X := Unit) S A n t hS hn (fun _ _ _ _ => ()) (fun _ _ _ _ => True) (fun _ _ _ _ _ _ _ _ _ _ _ => ⟨(), rfl, trivial⟩) (fun _ => 0) () trivial
  exact ⟨e, q⟩
theorem cN_all {P : Int → Prop} : ∀ n : Nat, (∀ k : Int, 0 ≤ k → k < n → P k) → cN P n = n
  | 0, _ => rfl
  | n + 1, h => by
    unfold cN
    rw [cN_all n (fun k a b => h k a (by omega)), b01_t (h n (by omega) (by omega))]
    omega
/-- all objects by their names -/
def EnN (I : Nat → Int → Int) (e : Int → Int) : Prop := Enum (fun j => 0 ≤ j ∧ j < I 94 0) (fun a b => I 98 a < I 98 b) (I 94 0) e
theorem TO_nm {I : Nat → Int → Int} (D : NmD I) {T : Int → Prop} (hT : ∀ j, T j → 0 ≤ j ∧ j < I 94 0) : TO T (fun a b => I 98 a < I 98 b) := by
  refine ⟨fun a b x y q => ?_, fun a b c _ _ _ x y => ?_, fun a _ x => ?_⟩
  · have ha := hT a x
    have hb := hT b y
    have : I 98 a ≠ I 98 b := fun r => q (D a b ha.1 ha.2 hb.1 hb.2 r)
    dsimp only
    omega
  · exact Int.lt_trans x y
  · exact Int.lt_irrefl _ x
theorem EnN_ex {I : Nat → Int → Int} (D : NmD I) (ht : 0 ≤ I 94 0) : ∃ e, EnN I e := by
  obtain ⟨e, q⟩ := Enum_ex (TO_nm D (T := fun j => 0 ≤ j ∧ j < I 94 0) (fun _ q => q)) (fun _ q => q) ht
  rw [cN_all _ (fun k a b => ⟨a, by omega⟩), Int.toNat_of_nonneg ht] at q
  exact ⟨e, q⟩
/-- the name that came last, ahead of the n-th -/
def lst (I : Nat → Int → Int) (e : Int → Int) (n : Int) : Int := if n = 0 then -1 else I 98 (e (n - 1))
theorem lst_s {I : Nat → Int → Int} {e : Int → Int} {n : Int} (h : 0 ≤ n) : lst I e (n + 1) = I 98 (e n) := by
  unfold lst
  rw [if_neg (by omega), show n + 1 - 1 = n by omega]
theorem nxN {I : Nat → Int → Int} {e : Int → Int} (E : EnN I e) (X : WX I) {n : Int} (h0 : 0 ≤ n) (h1 : n < I 94 0) :
    MinB (fun k => (0 ≤ k ∧ k < I 94 0) ∧ lst I e n < I 98 k) (fun a b => I 98 a < I 98 b) (I 94 0) (e n) := by
  have hn := E.1 n h0 h1
  refine Or.inr ⟨⟨hn.1, hn.2, hn, ?_⟩, fun k k0 k1 r => ?_⟩
  · unfold lst
    split
    · have := (X (e n) hn.1 hn.2).1; omega
    · exact E.2.1 (n - 1) n (by omega) (by omega) h1
  · obtain ⟨i, hi, ei⟩ := E.2.2 k ⟨k0, k1⟩
    by_cases h2 : i = n
    · left; rw [← ei, h2]
    · by_cases h3 : n < i
      · right
        have := E.2.1 n i h0 h3 hi.2
        rw [ei] at this
        exact this
      · exfalso
        have r2 := r.2
        unfold lst at r2
        rw [if_neg (by omega)] at r2
        by_cases h4 : i = n - 1
        · rw [← h4, ei] at r2
          exact Int.lt_irrefl _ r2
        · have := E.2.1 i (n - 1) hi.1 (by omega) (by omega)
          rw [ei] at this
          exact Int.lt_irrefl _ (Int.lt_trans this r2)
/-- going down over places, keeping the best -/
noncomputable def fo (C : Int → Int → Prop) (v : Int → Int) : Nat → Int → Int × Int → Int × Int
  | 0, _, s => s
  | n + 1, k, s => if k < 0 then s else fo C v n (k - 1) (@ite _ (C k s.1) (Classical.propDecidable _) (v k, k) s)
/-- going over a row of objects, keeping the best -/
noncomputable def gm (C : Int → Int → Prop) (v : Int → Int) (e : Int → Int) (s : Int × Int) : Nat → Int × Int
  | 0 => s
  | n + 1 => @ite _ (C (e n) (gm C v e s n).1) (Classical.propDecidable _) (v (e n), e n) (gm C v e s n)
theorem gm_s {C : Int → Int → Prop} {v e : Int → Int} {s : Int × Int} {k : Int} (hk : 0 ≤ k) : gm C v e s (k + 1).toNat = @ite _ (C (e k) (gm C v e s k.toNat).1) (Classical.propDecidable _) (v (e k), e k) (gm C v e s k.toNat) := by
  have : (k + 1).toNat = k.toNat + 1 := by omega
  have e1 : ((k.toNat : Nat) : Int) = k := Int.toNat_of_nonneg hk
  have hd : ∀ n : Nat, gm C v e s (n + 1) = @ite _ (C (e n) (gm C v e s n).1) (Classical.propDecidable _) (v (e n), e n) (gm C v e s n) := fun _ => rfl
  rw [this, hd, e1]
def C1 (I : Nat → Int → Int) (p o deep k best : Int) : Prop := I 95 (I 112 (120 * p + k)) = I 95 o ∧ dpt I p k < deep ∧ dlt I o (I 112 (120 * p + k)) < best
noncomputable def V1 (I : Nat → Int → Int) (p o k : Int) : Int := dlt I o (I 112 (120 * p + k))
def C2 (I : Nat → Int → Int) (p o z best : Int) : Prop := I 135 z ≠ 0 ∧ I 95 z = I 95 o ∧ Gd I (p / 20) z ∧ dlt I o z < best
noncomputable def b1 (I : Nat → Int → Int) (p o win deep : Int) : Int × Int := fo (C1 I p o deep) (V1 I p o) win.toNat (I 111 p - 1) (I 96 o, -1)
noncomputable def b2 (I : Nat → Int → Int) (e : Int → Int) (p o win deep : Int) : Int × Int := gm (C2 I p o) (dlt I o) e ((b1 I p o win deep).1, -1) (I 94 0).toNat
theorem r245a {h : HP} {I : Nat → Int → Int} {p o win deep t : Int} (L : LX 11 h 94) (W : WB I) (K : WK I) (hp : 0 ≤ p ∧ p < 40) (ho : 0 ≤ o ∧ o < I 94 0) (hw : 0 ≤ win ∧ win ≤ 100) :
    ∀ (n : Nat) (k best by_ : Int) (j1 j2 j3 : MV), -1 ≤ k → k < I 111 p → k - n = I 111 p - 1 - win → ∃ k1 w1 w2 w3, Go 245 16 [.inr (.inl (some 94)), .inl p, .inl o, .inl win, .inl deep, .inl t, .inl best, .inl by_, .inl (-1), .inl k, j1, j2, j3] [] (mI h I) = Go 245 77 [.inr (.inl (some 94)), .inl p, .inl o, .inl win, .inl deep, .inl t, .inl (fo (C1 I p o deep) (V1 I p o) n k (best, by_)).1, .inl (fo (C1 I p o deep) (V1 I p o) n k (best, by_)).2, .inl (-1), .inl k1, w1, w2, w3] [] (mI h I) := by
  have hT := W.1
  have hkp := K.2 p hp.1 hp.2
  intro n
  induction n with
  | zero =>
    intro k best by_ j1 j2 j3 h0 h1 h2
    refine ⟨k, j1, j2, j3, ?_⟩
    rw [b245_16]
    by_cases hk : k < 0
    · rw [if_pos hk]; rfl
    · rw [if_neg hk, b245_18 L hp (by omega), if_pos (by omega)]; rfl
  | succ n ih =>
    intro k best by_ j1 j2 j3 h0 h1 h2
    by_cases hk : k < 0
    · refine ⟨k, j1, j2, j3, ?_⟩
      have e1 : fo (C1 I p o deep) (V1 I p o) (n + 1) k (best, by_) = (best, by_) := if_pos hk
      rw [b245_16, if_pos hk, e1]
    · have hek := hkp.2 k (by omega) h1
      have e1 : fo (C1 I p o deep) (V1 I p o) (n + 1) k (best, by_) = fo (C1 I p o deep) (V1 I p o) n (k - 1) (@ite _ (C1 I p o deep k best) (Classical.propDecidable _) (V1 I p o k, k) (best, by_)) := if_neg hk
      rw [e1]
      have h26 : Go 245 16 [.inr (.inl (some 94)), .inl p, .inl o, .inl win, .inl deep, .inl t, .inl best, .inl by_, .inl (-1), .inl k, j1, j2, j3] [] (mI h I) = if I 95 (I 112 (120 * p + k)) ≠ I 95 o then Go 245 58 [.inr (.inl (some 94)), .inl p, .inl o, .inl win, .inl deep, .inl t, .inl best, .inl by_, .inl (-1), .inl k, .inl (I 112 (120 * p + k)), j2, j3] [] (mI h I) else Go 245 44 [.inr (.inl (some 94)), .inl p, .inl o, .inl win, .inl deep, .inl t, .inl best, .inl by_, .inl (-1), .inl k, .inl (I 112 (120 * p + k)), j2, j3] [] (mI h I) := by
        rw [b245_16, if_neg hk, b245_18 L hp (by omega), if_neg (by omega), b245_26 L (by omega) (by omega) (by omega) (by omega) (by omega)]
      rw [h26]
      have wz := W.2 (I 112 (120 * p + k)) (by omega) (by omega)
      have wo := W.2 o ho.1 ho.2
      have hd : ∀ v3 v4 v5 v6 v7, Go 242 0 [.inr (.inl (some 94)), .inl o, .inl (I 112 (120 * p + k)), v3, v4, v5, v6, v7] [] (mI h I) = some (mI h I, .inl (some (.inl (V1 I p o k)))) := fun v3 v4 v5 v6 v7 => r242 L (by omega) (by omega) ⟨wo.1.2.2.1, wo.1.2.2.2.1⟩ ⟨wz.1.2.2.1, wz.1.2.2.2.1⟩
      have no : ¬C1 I p o deep k best → ∃ k1 w1 w2 w3, Go 245 58 [.inr (.inl (some 94)), .inl p, .inl o, .inl win, .inl deep, .inl t, .inl best, .inl by_, .inl (-1), .inl k, .inl (I 112 (120 * p + k)), j2, j3] [] (mI h I) = Go 245 77 [.inr (.inl (some 94)), .inl p, .inl o, .inl win, .inl deep, .inl t, .inl (fo (C1 I p o deep) (V1 I p o) n (k - 1) (@ite _ (C1 I p o deep k best) (Classical.propDecidable _) (V1 I p o k, k) (best, by_))).1, .inl (fo (C1 I p o deep) (V1 I p o) n (k - 1) (@ite _ (C1 I p o deep k best) (Classical.propDecidable _) (V1 I p o k, k) (best, by_))).2, .inl (-1), .inl k1, w1, w2, w3] [] (mI h I) := by
        intro hc
        rw [if_neg hc, b245_58, b245_59, if_pos rfl, b245_64, b245_65, if_pos rfl, b245_73, b245_74 (by omega)]
        exact ih (k - 1) best by_ _ _ _ (by omega) (by omega) (by omega)
      by_cases q1 : I 95 (I 112 (120 * p + k)) = I 95 o
      · rw [if_neg (fun q => q q1), b245_44 L, r241 L hp (by omega) (fun i a b => (hkp.2 i a (by omega)).2), caln_r, b245_48]
        by_cases q2 : deep ≤ dpt I p k
        · rw [if_pos q2]
          exact no (fun q => by have := q.2.1; omega)
        · rw [if_neg q2, b245_50 L, hd, caln_r, b245_54]
          by_cases q3 : best ≤ V1 I p o k
          · rw [if_pos q3]
            exact no (fun q => by have := q.2.2; unfold V1 at q3; omega)
          · have hc : C1 I p o deep k best := ⟨q1, by omega, by unfold V1 at q3; omega⟩
            rw [if_neg q3, if_pos hc, b245_56, b245_59, if_neg neg1_ne, b245_62, b245_65, if_neg neg1_ne, b245_68 L, hd, caln_r, b245_72, b245_74 (by omega)]
            exact ih (k - 1) (V1 I p o k) k _ _ _ (by omega) (by omega) (by omega)
      · rw [if_pos q1]
        exact no (fun q => q1 q.1)
/-- the inner search of the next name -/
theorem r245n {h : HP} {I : Nat → Int → Int} {e : Int → Int} {x1 x2 x3 x4 x5 x6 x7 x8 n : Int} {w11 w12 : MV} (L : LX 11 h 94) (ht : 0 ≤ I 94 0 ∧ I 94 0 ≤ 120) (D : NmD I) (X : WX I) (E : EnN I e) (h0 : 0 ≤ n) (h1 : n < I 94 0) :
    ∃ u12 : Int, Go 245 87 [.inr (.inl (some 94)), .inl x1, .inl x2, .inl x3, .inl x4, .inl x5, .inl x6, .inl x7, .inl x8, .inl (lst I e n), .inl n, w11, w12] [] (mI h I) = Go 245 118 [.inr (.inl (some 94)), .inl x1, .inl x2, .inl x3, .inl x4, .inl x5, .inl x6, .inl x7, .inl x8, .inl (lst I e n), .inl n, .inl (e n), .inl u12] [] (mI h I) := by
  have t : TO (fun k => (0 ≤ k ∧ k < I 94 0) ∧ lst I e n < I 98 k) (fun a b => I 98 a < I 98 b) := TO_nm D (fun j q => q.1)
  rw [b245_87]
  have key := lpE (fun k (l : Int) => Go 245 91 [.inr (.inl (some 94)), .inl x1, .inl x2, .inl x3, .inl x4, .inl x5, .inl x6, .inl x7, .inl x8, .inl (lst I e n), .inl n, .inl l, .inl k] [] (mI h I)) (fun k l => MinB (fun k => (0 ≤ k ∧ k < I 94 0) ∧ lst I e n < I 98 k) (fun a b => I 98 a < I 98 b) k l) 0 (I 94 0) ht.1 ?_ (-1) MinB_0
  · obtain ⟨l, e1, hl⟩ := key
    have := MinB_u t hl (nxN E X h0 h1)
    subst this
    refine ⟨I 94 0, ?_⟩
    rw [e1, b245_91 L, if_pos (Int.le_refl _)]
  · intro k l k0 k1 hl
    have hll : -1 ≤ l ∧ l < k := by
      obtain ⟨q, _⟩ | ⟨q, _⟩ := hl
      · omega
      · omega
    rw [b245_91 L, if_neg (by omega), b245_95 L (by omega)]
    by_cases q1 : I 98 k ≤ lst I e n
    · refine ⟨l, ?_, MinB_n t hl (fun q => by have := q.2; omega)⟩
      rw [if_pos q1, b245_114, b245_115 (by omega)]
    · rw [if_neg q1, b245_101]
      by_cases q2 : l < 0
      · refine ⟨k, ?_, MinB_y t k0 hl ⟨⟨k0, k1⟩, by omega⟩ (Or.inl q2)⟩
        rw [if_pos q2, b245_112, b245_115 (by omega)]
      · rw [if_neg q2, b245_103 L (by omega) (by omega)]
        by_cases q3 : I 98 l ≤ I 98 k
        · refine ⟨l, ?_, MinB_n t hl (fun _ => ⟨by omega, by omega⟩)⟩
          rw [if_pos q3, b245_114, b245_115 (by omega)]
        · refine ⟨k, ?_, MinB_y t k0 hl ⟨⟨k0, k1⟩, by omega⟩ (Or.inr (by omega))⟩
          rw [if_neg q3, b245_112, b245_115 (by omega)]
theorem r245b {h : HP} {I : Nat → Int → Int} {e : Int → Int} {p o win deep x7 best : Int} {w9 w10 w11 w12 : MV} (L : LX 11 h 94) (W : WB I) (K : WK I) (E1 : WL I) (D : NmD I) (X : WX I) (E : EnN I e) (hp : 0 ≤ p ∧ p < 40) (ho : 0 ≤ o ∧ o < I 94 0) (h9 : ∃ z, w9 = .inl z) :
    ∃ (u9 u10 : Int) (u11 u12 : MV), Go 245 77 [.inr (.inl (some 94)), .inl p, .inl o, .inl win, .inl deep, .inl 1, .inl best, .inl x7, .inl (-1), w9, w10, w11, w12] [] (mI h I) = Go 245 171 [.inr (.inl (some 94)), .inl p, .inl o, .inl win, .inl deep, .inl 1, .inl (gm (C2 I p o) (dlt I o) e (best, -1) (I 94 0).toNat).1, .inl x7, .inl (gm (C2 I p o) (dlt I o) e (best, -1) (I 94 0).toNat).2, .inl u9, .inl u10, u11, u12] [] (mI h I) := by
  have ht := WB_t W
  have hT := W.1
  obtain ⟨z9, rfl⟩ := h9
  rw [b245_77]
  have key := lpE (fun k (x : MV × MV) => Go 245 81 [.inr (.inl (some 94)), .inl p, .inl o, .inl win, .inl deep, .inl 1, .inl (gm (C2 I p o) (dlt I o) e (best, -1) k.toNat).1, .inl x7, .inl (gm (C2 I p o) (dlt I o) e (best, -1) k.toNat).2, .inl (lst I e k), .inl k, x.1, x.2] [] (mI h I)) (fun _ _ => True) 0 (I 94 0) ht.1 ?_ (w11, w12) trivial
  · obtain ⟨⟨v1, v2⟩, e1, -⟩ := key
    refine ⟨lst I e (I 94 0), I 94 0, v1, v2, ?_⟩
    refine Eq.trans e1 ?_
    dsimp only
    rw [b245_81 L, if_pos (Int.le_refl _)]
  · rintro k ⟨v1, v2⟩ k0 k1 -
    have hek := E.1 k k0 k1
    dsimp only
    obtain ⟨w, e2⟩ := r245n (h := h) (I := I) (e := e) (x1 := p) (x2 := o) (x3 := win) (x4 := deep) (x5 := 1) (x6 := (gm (C2 I p o) (dlt I o) e (best, -1) k.toNat).1) (x7 := x7) (x8 := (gm (C2 I p o) (dlt I o) e (best, -1) k.toNat).2) (n := k) (w11 := v1) (w12 := v2) L ht D X E k0 k1
    rw [gm_s k0, lst_s k0]
    generalize gm (C2 I p o) (dlt I o) e (best, -1) k.toNat = g at *
    obtain ⟨g1, g2⟩ := g
    dsimp only at e2 ⊢
    rw [b245_81 L, if_neg (by omega), b245_85, if_neg neg1_ne, e2, b245_118 L (by omega)]
    have wz := W.2 (e k) hek.1 hek.2
    have wo := W.2 o ho.1 ho.2
    have hd : ∀ v3 v4 v5 v6 v7, Go 242 0 [.inr (.inl (some 94)), .inl o, .inl (e k), v3, v4, v5, v6, v7] [] (mI h I) = some (mI h I, .inl (some (.inl (dlt I o (e k))))) := fun v3 v4 v5 v6 v7 => r242 L (by omega) (by omega) ⟨wo.1.2.2.1, wo.1.2.2.2.1⟩ ⟨wz.1.2.2.1, wz.1.2.2.2.1⟩
    have no : ¬C2 I p o (e k) g1 → Go 245 152 [.inr (.inl (some 94)), .inl p, .inl o, .inl win, .inl deep, .inl 1, .inl g1, .inl x7, .inl g2, .inl (I 98 (e k)), .inl k, .inl (e k), .inl w] [] (mI h I) = Go 245 81 [.inr (.inl (some 94)), .inl p, .inl o, .inl win, .inl deep, .inl 1, .inl (@ite (Int × Int) (C2 I p o (e k) g1) (Classical.propDecidable _) (dlt I o (e k), e k) (g1, g2)).1, .inl x7, .inl (@ite (Int × Int) (C2 I p o (e k) g1) (Classical.propDecidable _) (dlt I o (e k), e k) (g1, g2)).2, .inl (I 98 (e k)), .inl (k + 1), .inl (e k), .inl 0] [] (mI h I) := by
      intro hc
      rw [if_neg hc, b245_152, b245_153, if_pos rfl, b245_158, b245_159, if_pos rfl, b245_167, b245_168 (by omega)]
    by_cases q1 : I 135 (e k) = 0
    · rw [if_pos q1]
      exact ⟨(_, _), no (fun q => q.1 q1), trivial⟩
    · rw [if_neg q1, b245_128 L (by omega) (by omega)]
      by_cases q2 : I 95 (e k) = I 95 o
      · rw [if_neg (fun q => q q2), b245_137 hp.1 L, r181 L K E1 (by omega) (by omega), caln_r, b245_143]
        by_cases q3 : Gd I (p / 20) (e k)
        · rw [b01_t q3, if_neg neg1_ne, b245_144 L, hd, caln_r, b245_148]
          by_cases q4 : g1 ≤ dlt I o (e k)
          · rw [if_pos q4]
            exact ⟨(_, _), no (fun q => by have := q.2.2.2; omega), trivial⟩
          · have hc : C2 I p o (e k) g1 := ⟨q1, q2, q3, by omega⟩
            refine ⟨(.inl (e k), .inl 1), ?_, trivial⟩
            · rw [if_neg q4, if_pos hc, b245_150, b245_153, if_neg neg1_ne, b245_156, b245_159, if_neg neg1_ne, b245_162 L, hd, caln_r, b245_166, b245_168 (by omega)]
        · rw [b01_f q3, if_pos rfl]
          exact ⟨(_, _), no (fun q => q3 q.2.2.1), trivial⟩
      · rw [if_pos q2]
        exact ⟨(_, _), no (fun q => q2 q.2.1), trivial⟩
noncomputable def P1 (I : Nat → Int → Int) (e : Int → Int) (p o win deep t : Int) : Nat → Int → Int :=
  if t ≠ 0 ∧ 0 ≤ (b2 I e p o win deep).2 then (if eo I p (b2 I e p o win deep).2 < 0 then en (en I p (b2 I e p o win deep).2 (-1)) p o (I 111 p) else en I p o (eo I p (b2 I e p o win deep).2)) else en I p o (b1 I p o win deep).2
theorem r245 {h : HP} {I : Nat → Int → Int} {e : Int → Int} {p o win deep t : Int} {w6 w7 w8 w9 w10 w11 w12 : MV} (L : LX 11 h 94) (W : WB I) (K : WK I) (E1 : WL I) (D : NmD I) (X : WX I) (E : EnN I e) (hp : 0 ≤ p ∧ p < 40) (ho : 0 ≤ o ∧ o < I 94 0) (hw : 0 ≤ win ∧ win ≤ 100) (ht : t = 0 ∨ t = 1) :
    Go 245 0 [.inr (.inl (some 94)), .inl p, .inl o, .inl win, .inl deep, .inl t, w6, w7, w8, w9, w10, w11, w12] [] (mI h I) = some (mI h (P1 I e p o win deep t), .inl none) := by
  have hT := W.1
  have hkp := (K.2 p hp.1 hp.2).1
  obtain ⟨k1, v1, v2, v3, e1⟩ := r245a (h := h) (I := I) (p := p) (o := o) (win := win) (deep := deep) (t := t) L W K hp ho hw win.toNat (I 111 p - 1) (I 96 o) (-1) w10 w11 w12 (by omega) (by omega) (by omega)
  have e2 : fo (C1 I p o deep) (V1 I p o) win.toNat (I 111 p - 1) (I 96 o, -1) = b1 I p o win deep := rfl
  rw [e2] at e1
  have en2 : ∀ b, 0 ≤ en I p b (-1) 111 p ∧ en I p b (-1) 111 p < 120 := fun b => by
    have : en I p b (-1) 111 p = I 111 p + 1 := by
      unfold en
      rw [rowU_eq, up1_eq]
    rw [this]
    omega
  have hlast : ∀ (J : Nat → Int → Int) (x6 x7 x8 x9 x10 : Int) (v11 v12 : MV), 0 ≤ J 111 p ∧ J 111 p < 120 → Go 245 188 [.inr (.inl (some 94)), .inl p, .inl o, .inl win, .inl deep, .inl t, .inl x6, .inl x7, .inl x8, .inl x9, .inl x10, v11, v12] [] (mI h J) = some (mI h (en J p o x7), .inl none) := by
    intro J x6 x7 x8 x9 x10 v11 v12 hJ
    rw [b245_188 L, r243 L hp hJ, caln_r, b245_193]
  rw [b245_0 L (by omega) hp (by omega), e1]
  unfold P1
  obtain h0 | h0 := ht
  · rw [if_neg (fun q => q.1 h0), b245_77, b245_81 L]
    have h171 : ∀ v11 v12, Go 245 171 [.inr (.inl (some 94)), .inl p, .inl o, .inl win, .inl deep, .inl t, .inl (b1 I p o win deep).1, .inl (b1 I p o win deep).2, .inl (-1), .inl (-1), .inl 0, v11, v12] [] (mI h I) = some (mI h (en I p o (b1 I p o win deep).2), .inl none) := by
      intro v11 v12
      rw [b245_171, if_pos (by decide), hlast I _ _ _ _ _ _ _ (by omega)]
    by_cases hz : I 94 0 ≤ 0
    · rw [if_pos hz, h171]
    · rw [if_neg hz, b245_85, if_pos h0, h171]
  · subst h0
    obtain ⟨u9, u10, u11, u12, e3⟩ := r245b (h := h) (I := I) (e := e) (p := p) (o := o) (win := win) (deep := deep) (x7 := (b1 I p o win deep).2) (best := (b1 I p o win deep).1) (w9 := .inl k1) (w10 := v1) (w11 := v2) (w12 := v3) L W K E1 D X E hp ho ⟨k1, rfl⟩
    have e4 : gm (C2 I p o) (dlt I o) e ((b1 I p o win deep).1, -1) (I 94 0).toNat = b2 I e p o win deep := rfl
    rw [e4] at e3
    rw [e3, b245_171]
    by_cases hc : (b2 I e p o win deep).2 < 0
    · rw [if_pos hc, if_neg (fun q => by have := q.2; omega), hlast I _ _ _ _ _ _ _ (by omega)]
    · rw [if_neg hc, if_pos ⟨neg1_ne, by omega⟩, b245_173 L, r244 L hp (by omega), caln_r, b245_177]
      by_cases hq : 0 ≤ eo I p (b2 I e p o win deep).2
      · rw [if_pos hq, if_neg (by omega), b245_186, b245_187, hlast I _ _ _ _ _ _ _ (by omega)]
      · rw [if_neg hq, if_pos (by omega), b245_180 L, r243 L hp (by omega), caln_r, b245_185, b245_187, hlast _ _ _ _ _ _ _ _ (en2 _)]
