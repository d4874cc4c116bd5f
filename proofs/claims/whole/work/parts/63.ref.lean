/-! ===== the reference's methods (14): commit ===== -/
def cA (I : Nat → Int → Int) (s n : Int) : Prop := ∃ k, 6 * s ≤ k ∧ k < n ∧ I 129 k ≠ 0
def cM (I : Nat → Int → Int) (s n : Int) : Prop := ∀ k, 6 * s ≤ k → k < n → I 129 k ≠ 0 → I 115 k = I 130 k
def cW (I : Nat → Int → Int) (s n : Int) : Prop := ∀ k, 6 * s ≤ k → k < n → I 129 k ≠ 0 → I 131 k ≠ 0 → Wh I s (I 131 k - 1)
def WE (I : Nat → Int → Int) : Prop := (∀ j, I 129 j = 0 ∨ I 129 j = 1) ∧ ∀ k, 0 ≤ k → k < 12 → 0 ≤ I 131 k ∧ I 131 k ≤ I 94 0
theorem Wh_U {I : Nat → Int → Int} {a : Nat} {f : Int → Int} (ha : 118 ≤ a) : Wh (rowU I a f) = Wh I := by
  unfold Wh
  rw [Eg_U (by omega) (by omega), Th_U (by omega), rowU_ne (by omega)]
/-- row 133 is some set of objects -/
def S3 (P : Int → Prop) : Prop := ∀ j, P j → 0 ≤ j ∧ j < 120
theorem r219a {h : HP} {I : Nat → Int → Int} {s : Int} {P0 : Int → Prop} (L : LX 11 h 94) (W : WB I) (K : WK I) (E : WE I) (hs : s = 0 ∨ s = 1) (h0 : S3 P0) :
    ∃ P, S3 P ∧ Go 219 16 [.inr (.inl (some 94)), .inl s, .inl 0, .inl 1, .inl 1, .inl (6 * s)] [] (mI h (rowU I 133 (ind P0))) = Go 219 78 [.inr (.inl (some 94)), .inl s, .inl (b01 (cA I s (6 * s + 6))), .inl (b01 (cM I s (6 * s + 6))), .inl (b01 (cW I s (6 * s + 6))), .inl (6 * s + 6)] [] (mI h (rowU I 133 (ind P))) := by
  have key := lpE (fun k (P : Int → Prop) => Go 219 16 [.inr (.inl (some 94)), .inl s, .inl (b01 (cA I s k)), .inl (b01 (cM I s k)), .inl (b01 (cW I s k)), .inl k] [] (mI h (rowU I 133 (ind P)))) (fun _ P => S3 P) (6 * s) (6 * s + 6) (by omega) ?_ P0 h0
  · obtain ⟨P, e, hP⟩ := key
    refine ⟨P, hP, ?_⟩
    have a0 : b01 (cA I s (6 * s)) = 0 := b01_f (fun ⟨k, a, b, _⟩ => by omega)
    have m0 : b01 (cM I s (6 * s)) = 1 := b01_t (fun k a b => by omega)
    have w0 : b01 (cW I s (6 * s)) = 1 := b01_t (fun k a b => by omega)
    rw [a0, m0, w0] at e
    rw [e, b219_16 (by omega) (by omega), if_pos (Int.le_refl _)]
  · intro k P k0 k1 hP
    have hkE := E.2 k (by omega) (by omega)
    have hT := W.1
    have WU : WB (rowU I 133 (ind P)) := by rw [WB_U (by decide)]; exact W
    have KU : WK (rowU I 133 (ind P)) := by rw [WK_U (by decide)]; exact K
    have ZU : Z133 (rowU I 133 (ind P)) := Z133_i hP
    have eA : b01 (cA I s (k + 1)) = zor (b01 (cA I s k)) (I 129 k) := by
      rw [b01_x (E.1 k), zor_b]
      apply b01_c
      constructor
      · rintro ⟨i, a, b, c⟩
        by_cases hi : i = k
        · subst hi; exact Or.inr ((E.1 i).resolve_left c)
        · exact Or.inl ⟨i, a, by omega, c⟩
      · rintro (⟨i, a, b, c⟩ | c)
        · exact ⟨i, a, by omega, c⟩
        · exact ⟨k, k0, by omega, fun q => by omega⟩
    have eM : ∀ q : Prop, (q ↔ (I 129 k ≠ 0 → I 115 k = I 130 k)) → b01 (cM I s (k + 1)) = zand (b01 (cM I s k)) (b01 q) := by
      intro q hq
      rw [zand_b]
      apply b01_c
      rw [hq]
      constructor
      · intro c
        exact ⟨fun i a b => c i a (by omega), c k k0 (by omega)⟩
      · rintro ⟨c1, c2⟩ i a b
        by_cases hi : i = k
        · subst hi; exact c2
        · exact c1 i a (by omega)
    have eW : ∀ q : Prop, (q ↔ (I 129 k ≠ 0 → I 131 k ≠ 0 → Wh I s (I 131 k - 1))) → b01 (cW I s (k + 1)) = zand (b01 (cW I s k)) (b01 q) := by
      intro q hq
      rw [zand_b]
      apply b01_c
      rw [hq]
      constructor
      · intro c
        exact ⟨fun i a b => c i a (by omega), c k k0 (by omega)⟩
      · rintro ⟨c1, c2⟩ i a b
        by_cases hi : i = k
        · subst hi; exact c2
        · exact c1 i a (by omega)
    have g16 : ¬ 6 * s + 6 ≤ k := by omega
    by_cases hx : I 129 k = 0
    · refine ⟨P, ?_, hP⟩
      have m1 := eM True ⟨fun _ q => absurd hx q, fun _ => trivial⟩
      have w1 := eW True ⟨fun _ q => absurd hx q, fun _ => trivial⟩
      rw [b01_t trivial] at m1 w1
      rw [eA, m1, w1, b219_16 (by omega) (by omega), if_neg g16, b219_23 L (by omega)]
      simp only [rowU, Nat.reduceEqDiff, ↓reduceIte]
      rw [if_pos hx, b219_45, b219_48 L (by omega)]
      simp only [rowU, Nat.reduceEqDiff, ↓reduceIte]
      rw [if_pos hx, b219_71, b219_74 (by omega)]
    · have m1 : ∃ t : Int, b01 (cM I s (k + 1)) = zand (b01 (cM I s k)) t ∧ Go 219 36 [.inr (.inl (some 94)), .inl s, .inl (b01 (cA I s (k + 1))), .inl (b01 (cM I s k)), .inl (b01 (cW I s k)), .inl k] [.inl (b01 (cM I s k))] (mI h (rowU I 133 (ind P))) = Go 219 48 [.inr (.inl (some 94)), .inl s, .inl (b01 (cA I s (k + 1))), .inl (b01 (cM I s k)), .inl (b01 (cW I s k)), .inl k] [.inl t, .inl (b01 (cM I s k))] (mI h (rowU I 133 (ind P))) := by
        by_cases hq : I 115 k = I 130 k
        · refine ⟨1, ?_, ?_⟩
          · have := eM True ⟨fun _ _ => hq, fun _ => trivial⟩
            rwa [b01_t trivial] at this
          · rw [b219_36 L (by omega)]
            simp only [rowU, Nat.reduceEqDiff, ↓reduceIte]
            rw [if_neg (fun q => q hq), b219_45]
        · refine ⟨0, ?_, ?_⟩
          · have := eM False ⟨False.elim, fun q => hq (q hx)⟩
            rwa [b01_f (fun q => q)] at this
          · rw [b219_36 L (by omega)]
            simp only [rowU, Nat.reduceEqDiff, ↓reduceIte]
            rw [if_pos hq, b219_47]
      obtain ⟨t, m1, m2⟩ := m1
      have h48 : Go 219 16 [.inr (.inl (some 94)), .inl s, .inl (b01 (cA I s k)), .inl (b01 (cM I s k)), .inl (b01 (cW I s k)), .inl k] [] (mI h (rowU I 133 (ind P))) = Go 219 56 [.inr (.inl (some 94)), .inl s, .inl (b01 (cA I s (k + 1))), .inl (b01 (cM I s (k + 1))), .inl (b01 (cW I s k)), .inl k] [.inl (b01 (cW I s k))] (mI h (rowU I 133 (ind P))) := by
        rw [b219_16 (by omega) (by omega), if_neg g16, b219_23 L (by omega)]
        simp only [rowU, Nat.reduceEqDiff, ↓reduceIte]
        rw [if_neg hx, ← eA, m2, b219_48 L (by omega)]
        simp only [rowU, Nat.reduceEqDiff, ↓reduceIte]
        rw [if_neg hx, ← m1]
      rw [h48, b219_56 L (by omega)]
      simp only [rowU, Nat.reduceEqDiff, ↓reduceIte]
      by_cases hn : I 131 k = 0
      · have w1 := eW True ⟨fun _ _ q => absurd hn q, fun _ => trivial⟩
        rw [b01_t trivial] at w1
        refine ⟨P, ?_, hP⟩
        rw [if_pos hn, b219_71, b219_74 (by omega), w1]
      · rw [if_neg hn, b219_61 L (by omega) (by simp only [rowU, Nat.reduceEqDiff, ↓reduceIte]; omega)]
        simp only [rowU, Nat.reduceEqDiff, ↓reduceIte]
        rw [r182 L WU KU ZU hs (by simp only [rowU, Nat.reduceEqDiff, ↓reduceIte]; omega), caln_r, b219_70, rowU_tw, Wh_U (by decide), Eg_U (by decide) (by decide)]
        refine ⟨Cl (Eg I s) (fun j => j = I 131 k - 1), ?_, fun j c => by have := Cl_lt W (fun j q => by omega) j c; have := W.1; omega⟩
        by_cases hw : Wh I s (I 131 k - 1)
        · have w1 := eW True ⟨fun _ _ _ => hw, fun _ => trivial⟩
          rw [b01_t trivial] at w1
          rw [b01_t hw, if_neg neg1_ne, b219_71, b219_74 (by omega), w1]
        · have w1 := eW False ⟨False.elim, fun q => hw (q hx hn)⟩
          rw [b01_f (fun q => q)] at w1
          rw [b01_f hw, if_pos rfl, b219_73, b219_74 (by omega), w1]
def bF (M : Nat → Int → Int) (s : Int) : Nat → Nat → Int → Int
  | 0 => M
  | n + 1 => if bF M s n 129 (6 * s + n) = 0 then bF M s n else bE (bF M s n) (6 * s + n) (bF M s n 131 (6 * s + n))
theorem bE_f {I : Nat → Int → Int} {k x : Int} {a : Nat} (h : a ≠ 115 ∧ a ≠ 119 ∧ a ≠ 123 ∧ a ≠ 124 ∧ a ≠ 125) : bE I k x a = I a := by
  unfold bE
  split
  · rfl
  · unfold bC
    rw [rowU_ne h.1, rowU_ne h.2.1, rowU_ne h.2.2.2.2, rowU_ne h.2.2.2.1, rowU_ne h.2.2.1]
theorem bF_f {M : Nat → Int → Int} {s : Int} {a : Nat} (h : a ≠ 115 ∧ a ≠ 119 ∧ a ≠ 123 ∧ a ≠ 124 ∧ a ≠ 125) : ∀ n : Nat, bF M s n a = M a
  | 0 => rfl
  | n + 1 => by
    have ih := bF_f (M := M) (s := s) h n
    unfold bF
    split
    · exact ih
    · rw [bE_f h]; exact ih
theorem bE_119 {I : Nat → Int → Int} {k x s : Int} (h : k / 6 = s) : I 119 s ≤ bE I k x 119 s ∧ bE I k x 119 s ≤ I 119 s + 1 := by
  unfold bE
  split
  · omega
  · unfold bC
    rw [rowU_ne (by decide), rowU_eq, h, up1_eq]
    omega
theorem bF_119 {M : Nat → Int → Int} {s : Int} : ∀ n : Nat, n ≤ 6 → M 119 s ≤ bF M s n 119 s ∧ bF M s n 119 s ≤ M 119 s + n
  | 0, _ => by unfold bF; omega
  | n + 1, hn => by
    have ih := bF_119 (M := M) (s := s) n (by omega)
    unfold bF
    split
    · omega
    · have := bE_119 (I := bF M s n) (k := 6 * s + n) (x := bF M s n 131 (6 * s + n)) (s := s) (by omega)
      omega
theorem r219b {h : HP} {M : Nat → Int → Int} {s x y z w w2 : Int} (L : LX 11 h 94) (hs : s = 0 ∨ s = 1) (hl : 0 ≤ M 119 s ∧ M 119 s ≤ 590) (N : WN M) (hd : 0 ≤ M 104 s ∧ M 104 s ≤ 30) :
    Go 219 101 [.inr (.inl (some 94)), .inl s, .inl x, .inl y, .inl z, .inl w] [.inl w2] (mI h M) = Go 219 130 [.inr (.inl (some 94)), .inl s, .inl x, .inl y, .inl z, .inl (6 * s + 6)] [] (mI h (kN (bF M s 6) s (M 104 s))) := by
  have key := lpU (fun i => Go 219 106 [.inr (.inl (some 94)), .inl s, .inl x, .inl y, .inl z, .inl (6 * s + i)] [] (mI h (bF M s i.toNat))) 0 6 (by omega) ?_
  · rw [Int.add_zero] at key
    rw [b219_101 (by omega)]
    refine Eq.trans key ?_
    have N2 : WN (bF M s 6) := fun j => by rw [bF_f (by decide)]; exact N j
    have d2 : bF M s 6 104 s = M 104 s := by rw [bF_f (by decide)]
    rw [b219_106 (by omega) (by omega), if_pos (Int.le_refl _)]
    show Go 219 127 _ _ (mI h (bF M s 6)) = _
    rw [b219_127 L, r187 L N2 hs (by rw [d2]; exact hd), d2, caln_v]
  · intro i h0 h1
    have hb := bF_119 (M := M) (s := s) i.toNat (by omega)
    have hi : ((i.toNat : Nat) : Int) = i := Int.toNat_of_nonneg h0
    have hs1 : bF M s (i + 1).toNat = if bF M s i.toNat 129 (6 * s + i) = 0 then bF M s i.toNat else bE (bF M s i.toNat) (6 * s + i) (bF M s i.toNat 131 (6 * s + i)) := by
      have e : (i + 1).toNat = i.toNat + 1 := by omega
      have hd : ∀ n : Nat, bF M s (n + 1) = if bF M s n 129 (6 * s + n) = 0 then bF M s n else bE (bF M s n) (6 * s + n) (bF M s n 131 (6 * s + n)) := fun _ => rfl
      rw [e, hd, hi]
    rw [b219_106 (by omega) (by omega), if_neg (by omega), b219_113 L (by omega), hs1]
    by_cases hz : bF M s i.toNat 129 (6 * s + i) = 0
    · rw [if_pos hz, if_pos hz, b219_125 (by omega), Int.add_assoc]
    · have hq : (6 * s + i) / 6 = s := by omega
      rw [if_neg hz, if_neg hz, b219_118 L (by omega), r218 L (by omega) (by rw [hq]; omega), caln_v, b219_125 (by omega), Int.add_assoc]
def cX (J : Nat → Int → Int) (s : Int) : Nat → Int → Int := rowU J 129 (fillR (J 129) (6 * s) (6 * s + 6) (fun _ => 0))
theorem r219c {h : HP} {J : Nat → Int → Int} {s x z w : Int} {p : Prop} (L : LX 11 h 94) (hs : s = 0 ∨ s = 1) : Go 219 130 [.inr (.inl (some 94)), .inl s, .inl x, .inl (b01 p), .inl z, .inl w] [] (mI h J) = some (mI h (cX J s), .inl (some (.inl (b01 p)))) := by
  have key := lpU (fun k => Go 219 134 [.inr (.inl (some 94)), .inl s, .inl x, .inl (b01 p), .inl z, .inl k] [] (mI h (rowU J 129 (fillR (J 129) (6 * s) k (fun _ => 0))))) (6 * s) (6 * s + 6) (by omega) ?_
  · rw [fillR_0 (by omega), rowU_id] at key
    rw [b219_130 (by omega), key, b219_134 (by omega) (by omega), if_pos (Int.le_refl _), b219_148 (b01_or _)]
    rfl
  · intro k h0 h1
    rw [b219_134 (by omega) (by omega), if_neg (by omega), b219_141 L (by omega) (by omega), zu2_row, rowU_tw, rowU_eq, fillR_s h0 rfl]
theorem tH_rU {I : Nat → Int → Int} {x : Int} {a : Nat} {f : Int → Int} (ha : a ≠ 94) : tH (rowU I a f) x = rowU (tH I x) a f := by
  unfold tH
  rw [rowU_ne (fun q => ha q.symm), rowU_cm ha]
noncomputable def cC (h : HP) (X : Nat → Int → Int) (s : Int) : Option (HP × OUT) :=
  @ite _ (cA X s (6 * s + 6) ∧ (cM X s (6 * s + 6) → cW X s (6 * s + 6))) (Classical.propDecidable _)
    (@ite _ (cM X s (6 * s + 6)) (Classical.propDecidable _) (some (mI h (cX (kN (bF (dO (tH X 0) s 4 0) s 6) s (dO (tH X 0) s 4 0 104 s)) s), .inl (some (.inl 1)))) (some (mI h (cX (tH X 0) s), .inl (some (.inl 0))))) (some (mI h (tH X 2), .inl (some (.inl 0))))
theorem dO_104 {I : Nat → Int → Int} {s a o : Int} (h : 0 ≤ I 104 s ∧ I 104 s ≤ 30) : 0 ≤ dO I s a o 104 s ∧ dO I s a o 104 s ≤ 30 := by
  have := dJ_104 h
  unfold dO dA
  rw [rowU_eq, up1_eq]
  omega
theorem r219d {h : HP} {X : Nat → Int → Int} {s w : Int} (L : LX 11 h 94) (W : WT X) (hs : s = 0 ∨ s = 1) (hl : 0 ≤ X 119 s ∧ X 119 s ≤ 590) :
    Go 219 78 [.inr (.inl (some 94)), .inl s, .inl (b01 (cA X s (6 * s + 6))), .inl (b01 (cM X s (6 * s + 6))), .inl (b01 (cW X s (6 * s + 6))), .inl w] [] (mI h X) = cC h X s := by
  have W2 : WT (tH X 0) := by rw [WT_tH]; exact W
  have bad : ∀ a b c : Int, Go 219 85 [.inr (.inl (some 94)), .inl s, .inl a, .inl b, .inl c, .inl w] [.inr (.inl (some 94))] (mI h X) = some (mI h (tH X 2), .inl (some (.inl 0))) := by
    intro a b c
    rw [b219_85, b219_88 L, zu2_tI, tH_49, if_neg (by decide), b219_92]
  have ok : ∀ a b c : Int, Go 219 87 [.inr (.inl (some 94)), .inl s, .inl a, .inl b, .inl c, .inl w] [.inr (.inl (some 94))] (mI h X) = Go 219 94 [.inr (.inl (some 94)), .inl s, .inl a, .inl b, .inl c, .inl w] [] (mI h (tH X 0)) := by
    intro a b c
    rw [b219_87, b219_88 L, zu2_tI, tH_49, if_pos (by decide)]
  unfold cC
  rw [b219_78]
  by_cases ha : cA X s (6 * s + 6)
  · rw [b01_t ha, if_neg neg1_ne, b219_81]
    by_cases hm : cM X s (6 * s + 6)
    · rw [b01_t hm, if_neg neg1_ne, b219_83]
      by_cases hw : cW X s (6 * s + 6)
      · rw [b01_t hw, if_pos neg1_ne, if_pos ⟨ha, fun _ => hw⟩, if_pos hm, ok, b219_94, if_neg neg1_ne, b219_96 L, r186 L (WB_t W2.1) W2.2.1 W2.2.2.1 W2.2.2.2.2.1 hs (W2.2.2.2.2.2.1 s hs), caln_r]
        have f119 : dO (tH X 0) s 4 0 119 = X 119 := by rw [dO_f (by decide), tH_n (by decide)]
        have f118 : dO (tH X 0) s 4 0 118 = X 118 := by rw [dO_f (by decide), tH_n (by decide)]
        have N2 : WN (dO (tH X 0) s 4 0) := fun j => by rw [f118]; exact W.2.2.1 j
        rw [r219b L hs (by rw [f119]; exact hl) N2 (dO_104 (W2.2.2.2.2.2.1 s hs)), show (1 : Int) = b01 True from (b01_t trivial).symm, r219c L hs]
      · rw [b01_f hw, if_neg (fun q => q rfl), if_neg (fun q => hw (q.2 hm)), bad]
    · rw [b01_f hm, if_pos rfl, if_pos ⟨ha, fun q => absurd q hm⟩, if_neg hm, ok, b219_94, if_pos rfl, show (0 : Int) = b01 False from (b01_f (fun q => q)).symm, r219c L hs]
  · rw [b01_f ha, if_pos rfl, if_neg (fun q => ha q.1), bad]
theorem r219 {h : HP} {I : Nat → Int → Int} {s : Int} {w2 w3 w4 w5 : MV} (L : LX 11 h 94) (W : WT I) (E : WE I) (hP : ∃ P, S3 P ∧ I 133 = ind P) (hl : ∀ s, s = 0 ∨ s = 1 → 0 ≤ I 119 s ∧ I 119 s ≤ 590) :
    ∃ P, S3 P ∧ Go 219 0 [.inr (.inl (some 94)), .inl s, w2, w3, w4, w5] [] (mI h I) = @ite _ (s = 0 ∨ s = 1) (Classical.propDecidable _) (cC h (rowU (tH I 0) 133 (ind P)) s) (some (mI h (tH I 1), .inl (some (.inl 0)))) := by
  obtain ⟨P0, h0, e0⟩ := hP
  rw [b219_0 L, r210 L]
  by_cases hs : s = 0 ∨ s = 1
  · rw [aq_t hs, caln_r, b219_3, if_pos neg1_ne, b219_6 (by omega)]
    have W2 : WT (tH I 0) := by rw [WT_tH]; exact W
    have e1 : tH I 0 = rowU (tH I 0) 133 (ind P0) := by
      rw [← e0]
      exact (rowU_id (tH I 0) 133).symm
    have E2 : WE (tH I 0) := by
      refine ⟨E.1, fun k a b => ?_⟩
      rw [tH_94 (by decide)]
      exact E.2 k a b
    obtain ⟨P, hp, e⟩ := r219a (h := h) (I := tH I 0) (s := s) (P0 := P0) L W2.1 W2.2.2.2.1 E2 hs h0
    rw [← e1] at e
    refine ⟨P, hp, ?_⟩
    rw [if_pos hs, e]
    have WX : WT (rowU (tH I 0) 133 (ind P)) := by
      unfold WT
      rw [WB_U (by decide), WK_U (by decide)]
      exact W2
    have a1 : cA (rowU (tH I 0) 133 (ind P)) = cA (tH I 0) := rfl
    have a2 : cM (rowU (tH I 0) 133 (ind P)) = cM (tH I 0) := rfl
    have a3 : cW (rowU (tH I 0) 133 (ind P)) = cW (tH I 0) := by
      unfold cW
      rw [Wh_U (by decide)]
      rfl
    have := r219d (h := h) (X := rowU (tH I 0) 133 (ind P)) (s := s) (w := 6 * s + 6) L WX hs (hl s hs)
    rw [a1, a2, a3] at this
    exact this
  · refine ⟨P0, h0, ?_⟩
    rw [if_neg hs, aq_f hs, caln_r, b219_3, if_neg (fun q => q rfl), b219_4]
