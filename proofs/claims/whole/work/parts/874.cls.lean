/-! ===== the class (5): what is reached ===== -/
theorem BC_U {I J : Nat → Int → Int} {a : Nat} {f : Int → Int} (ha : 9 < a) : BC (rowU I a f) J = BC I J := by
  unfold BC
  rw [rowU_ne (by omega), rowU_ne (by omega), rowU_ne (by omega), rowU_ne (by omega), rowU_ne (by omega), rowU_ne (by omega), rowU_ne (by omega), rowU_ne (by omega)]
/-- a note's shallow row is that of a store -/
def ShC (I J : Nat → Int → Int) (n : Nat) (s : Int) : Prop := ∀ o, 0 ≤ o → o < J 94 0 → I (n + 3) o = J 116 (120 * s + o)
def WSh (J : Nat → Int → Int) : Prop := ∀ s o, s = 0 ∨ s = 1 → 0 ≤ o → o < J 94 0 → J 116 (120 * s + o) ≠ 0 → J 95 o = 2
theorem ShC_U {I J : Nat → Int → Int} {n a : Nat} {s : Int} {f : Int → Int} (h : n + 3 ≠ a) : ShC (rowU I a f) J n s = ShC I J n s := by
  unfold ShC
  rw [rowU_ne h]
/-- links that count -/
def nE1 (J : Nat → Int → Int) (s o : Int) : Int := if J 116 (120 * s + o) = 0 then nL J o else 1
theorem lkP_k {J : Nat → Int → Int} {o j : Int} (W : WB J) (ho : 0 ≤ o ∧ o < J 94 0) (l : Lk J o j) : ∃ k, (0 ≤ k ∧ k < nL J o) ∧ lkP J o k = j := by
  have w := (W.2 o ho.1 ho.2).1.2.2.2.2.2.1
  unfold Lk at l
  unfold nL lkP
  by_cases h1 : J 95 o = 1
  · simp only [if_pos h1]
    exact ⟨j / 2, by omega, by omega⟩
  · simp only [if_neg h1]
    by_cases h2 : J 95 o = 2
    · simp only [if_pos h2]
      have w2 := w h2
      by_cases hj : j = 0
      · exact ⟨0, by omega, by rw [if_pos rfl, hj]⟩
      · exact ⟨j - 1, by omega, by rw [if_neg (by omega)]; omega⟩
    · simp only [if_neg h2]
      have h3 : J 95 o = 3 := by omega
      simp only [if_pos h3]
      exact ⟨0, by omega, by omega⟩
theorem Eg_l {J : Nat → Int → Int} (W : WB J) (Sh : WSh J) {s a b : Int} (hs : s = 0 ∨ s = 1) (ha : 0 ≤ a ∧ a < J 94 0) : Eg J s a b ↔ ∃ k, (0 ≤ k ∧ k < nE1 J s a) ∧ b = lkR J a k := by
  have w := (W.2 a ha.1 ha.2).1
  constructor
  · rintro ⟨j, l, hsh, e⟩
    obtain ⟨k, hk, ek⟩ := lkP_k W ha l
    refine ⟨k, ⟨hk.1, ?_⟩, by unfold lkR; rw [ek, e]⟩
    unfold nE1
    split
    · exact hk.2
    · next h6 =>
      have h2 := Sh s a hs ha.1 ha.2 h6
      have hj : ¬2 ≤ j := fun q => h6 (hsh h2 q)
      unfold lkP at ek
      rw [if_neg (by omega), if_pos h2] at ek
      split at ek
      · omega
      · omega
  · rintro ⟨k, hk, e⟩
    have hk2 : k < nL J a := by
      have hk1 := hk.2
      unfold nE1 at hk1
      split at hk1
      · exact hk1
      · next h6 =>
        have h2 := Sh s a hs ha.1 ha.2 h6
        have := w.2.2.2.2.2.1 h2
        unfold nL
        rw [if_neg (by omega), if_pos h2]
        omega
    refine ⟨lkP J a k, lkP_l W ha.1 ha.2 ⟨hk.1, hk2⟩, fun h2 q => ?_, e⟩
    apply Classical.byContradiction
    intro h6
    have hk1 := hk.2
    unfold nE1 at hk1
    rw [if_neg h6] at hk1
    unfold lkP at q
    rw [if_neg (by omega), if_pos h2, if_pos (by omega)] at q
    omega
theorem lkO_r {J : Nat → Int → Int} (W : WB J) {o k : Int} (ho : 0 ≤ o ∧ o < J 94 0) (hk : 0 ≤ k ∧ k < nL J o) : lkO J o k = lkR J o k ∧ 0 ≤ lkR J o k ∧ lkR J o k < o := by
  have l := lkP_l W ho.1 ho.2 hk
  have w := (W.2 o ho.1 ho.2).2 _ l
  exact ⟨if_pos ⟨ho, hk⟩, w⟩
def S1 (P : Int → Prop) : Prop := ∀ j, P j → 0 ≤ j ∧ j < 100
theorem k71 {h : HP} {I : Nat → Int → Int} {a : Nat} {P : Int → Prop} {v1 : MV} (L : LX 7 h a) (hP : S1 P) : Go 71 0 [.inr (.inl (some a)), v1] [] (mI h (rowU I (a + 1) (ind P))) = some (mI h (rowU I (a + 1) (ind (fun _ => False))), .inl none) := by
  rw [b71_0]
  have key := lpU (fun k => Go 71 2 [.inr (.inl (some a)), .inl k] [] (mI h (rowU I (a + 1) (ind (fun j => P j ∧ k ≤ j))))) 0 100 (by omega) ?_
  · rw [ind_c (P := fun j => P j ∧ 0 ≤ j) (Q := P) (fun j => ⟨And.left, fun q => ⟨q, (hP j q).1⟩⟩), ind_c (P := fun j => P j ∧ 100 ≤ j) (Q := fun _ => False) (fun j => ⟨fun q => by have := hP j q.1; omega, False.elim⟩)] at key
    rw [key, b71_2, if_pos (by decide), b71_12]
  · intro k k0 k1
    rw [b71_2, if_neg (by omega), b71_5 L (by omega) (by omega), zu2_row, rowU_tw, rowU_eq, up1_ind0, ind_c (P := fun j => (P j ∧ k ≤ j) ∧ j ≠ k) (Q := fun j => P j ∧ k + 1 ≤ j) (fun j => ⟨fun q => ⟨q.1.1, by omega⟩, fun q => ⟨⟨q.1, by omega⟩, by omega⟩⟩)]
theorem k72 {h : HP} {I : Nat → Int → Int} {a : Nat} {P : Int → Prop} {x : Int} (L : LX 7 h a) : Go 72 0 [.inr (.inl (some a)), .inl x] [] (mI h (rowU I (a + 1) (ind P))) = some (mI h (rowU I (a + 1) (ind (fun j => P j ∨ ((0 ≤ j ∧ j < 100) ∧ j = x)))), .inl none) := by
  rw [b72_0]
  have no : ¬(0 ≤ x ∧ x < 100) → Go 72 10 [.inr (.inl (some a)), .inl x] [] (mI h (rowU I (a + 1) (ind P))) = some (mI h (rowU I (a + 1) (ind (fun j => P j ∨ ((0 ≤ j ∧ j < 100) ∧ j = x)))), .inl none) := by
    intro q
    rw [b72_10, ind_c (P := fun j => P j ∨ ((0 ≤ j ∧ j < 100) ∧ j = x)) (Q := P) (fun j => ⟨fun c => c.elim id (fun c => absurd (c.2 ▸ c.1) q), Or.inl⟩)]
  by_cases h0 : x < 0
  · rw [if_pos h0, no (by omega)]
  · rw [if_neg h0, b72_2]
    by_cases h1 : 100 ≤ x
    · rw [if_pos h1, no (by omega)]
    · rw [if_neg h1, b72_5 L (by omega), b72_10, zu2_row, rowU_tw, rowU_eq, up1_ind1, ind_c (P := fun j => P j ∨ ((0 ≤ j ∧ j < 100) ∧ j = x)) (Q := fun j => P j ∨ j = x) (fun j => ⟨fun c => c.imp id And.right, fun c => c.imp id (fun c => ⟨by omega, c⟩)⟩)]
theorem k73 {h : HP} {I : Nat → Int → Int} {a : Nat} {P : Int → Prop} {v1 v2 : MV} (L : LX 7 h a) (hI : I (a + 1) = ind P) : Go 73 0 [.inr (.inl (some a)), v1, v2] [] (mI h I) = some (mI h I, .inl (some (.inl (cN P 100)))) := by
  have key := lpU (fun k => Go 73 4 [.inr (.inl (some a)), .inl (cN P k.toNat), .inl k] [] (mI h I)) 0 100 (by omega) ?_
  · rw [b73_0]
    refine Eq.trans key ?_
    rw [b73_4, if_pos (by decide), b73_20]
    rfl
  · intro k h0 h1
    have hc := cN_b (P := P) k.toNat
    rw [b73_4, if_neg (by omega), b73_7 L (by omega), hI, cN_s h0]
    by_cases hz : P k
    · rw [if_neg (by rw [ind_at]; exact fun q => q hz), b73_13, b73_16 (by omega) (by omega), b01_t hz]
    · rw [if_pos (by rw [ind_at]; exact hz), b73_15, b73_16 (by omega) (by omega), b01_f hz]
theorem cN_x {P : Int → Prop} {n : Nat} : ∀ m : Nat, n ≤ m → (∀ k, P k → k < n) → cN P m = cN P n
  | 0, h, _ => by have : n = 0 := by omega
                  rw [this]
  | m + 1, h, hp => by
    by_cases e : n = m + 1
    · rw [e]
    · have ih := cN_x m (by omega) hp
      show cN P m + b01 (P m) = cN P n
      rw [ih, b01_f (fun q => by have := hp m q; omega), Int.add_zero]
theorem k74 {h : HP} {I J : Nat → Int → Int} {a n : Nat} {P : Int → Prop} {s x : Int} {v3 v4 : MV} (L0 : LX 0 h 2) (L : LX 7 h a) (Ln : LX 4 h n) (B : BC I J) (R : RB J) (Sh : WSh J) (hC : ShC I J n s) (ha : 9 < a) (hn : n + 3 ≠ a + 1) (hs : s = 0 ∨ s = 1) (hx : 0 ≤ x ∧ x < J 94 0) :
    Go 74 0 [.inr (.inl (some a)), .inr (.inl (some n)), .inl x, v3, v4] [] (mI h (rowU I (a + 1) (ind P))) = some (mI h (rowU I (a + 1) (ind (fun j => P j ∨ Eg J s x j))), .inl none) := by
  have hT := R.1.1
  have B2 : ∀ f : Int → Int, BC (rowU I (a + 1) f) J := fun f => by rw [BC_U (by omega)]; exact B
  have esh := hC x hx.1 hx.2
  have h14 : Go 74 0 [.inr (.inl (some a)), .inr (.inl (some n)), .inl x, v3, v4] [] (mI h (rowU I (a + 1) (ind P))) = Go 74 14 [.inr (.inl (some a)), .inr (.inl (some n)), .inl x, .inl (nE1 J s x), .inl 0] [] (mI h (rowU I (a + 1) (ind P))) := by
    unfold nE1
    rw [b74_0 Ln (by omega), rowU_ne hn, esh]
    by_cases h0 : J 116 (120 * s + x) = 0
    · rw [if_pos h0, if_pos h0, b74_7 L L0, k8 L0 (B2 _) R, caln_r, b74_11]
      unfold nlO
      rw [if_pos hx]
    · rw [if_neg h0, if_neg h0, b74_5, b74_11]
  have hnl := nL_b R.1 hx.1 hx.2
  have hE1 : 0 ≤ nE1 J s x ∧ nE1 J s x ≤ 6 := by
    unfold nE1
    split
    · exact hnl
    · decide
  have key := lpU (fun k => Go 74 14 [.inr (.inl (some a)), .inr (.inl (some n)), .inl x, .inl (nE1 J s x), .inl k] [] (mI h (rowU I (a + 1) (ind (fun j => P j ∨ ∃ i, (0 ≤ i ∧ i < k) ∧ j = lkR J x i))))) 0 (nE1 J s x) hE1.1 ?_
  · rw [ind_c (P := fun j => P j ∨ ∃ i, (0 ≤ i ∧ i < 0) ∧ j = lkR J x i) (Q := P) (fun j => ⟨fun q => q.elim id (fun ⟨i, hi, _⟩ => by omega), Or.inl⟩), ind_c (P := fun j => P j ∨ ∃ i, (0 ≤ i ∧ i < nE1 J s x) ∧ j = lkR J x i) (Q := fun j => P j ∨ Eg J s x j) (fun j => by rw [Eg_l R.1 Sh hs hx])] at key
    rw [h14, key, b74_14, if_pos (Int.le_refl _), b74_26]
  · intro k k0 k1
    have hk2 : 0 ≤ k ∧ k < nL J x := by
      refine ⟨k0, ?_⟩
      unfold nE1 at k1
      split at k1
      · exact k1
      · next h6 =>
        have h2 := Sh s x hs hx.1 hx.2 h6
        have := (R.1.2 x hx.1 hx.2).1.2.2.2.2.2.1 h2
        unfold nL
        rw [if_neg (by omega), if_pos h2]
        omega
    have hl := lkO_r R.1 hx hk2
    rw [b74_14, if_neg (by omega), b74_17 L L0, k7 L0 (B2 _) R, hl.1, caln_r, b74_23 L, k72 L, caln_v, b74_24 (by omega), ind_c (P := fun j => (P j ∨ ∃ i, (0 ≤ i ∧ i < k) ∧ j = lkR J x i) ∨ ((0 ≤ j ∧ j < 100) ∧ j = lkR J x k)) (Q := fun j => P j ∨ ∃ i, (0 ≤ i ∧ i < k + 1) ∧ j = lkR J x i)]
    intro j
    constructor
    · rintro ((q | ⟨i, hi, e⟩) | q)
      · exact Or.inl q
      · exact Or.inr ⟨i, by omega, e⟩
      · exact Or.inr ⟨k, by omega, q.2⟩
    · rintro (q | ⟨i, hi, e⟩)
      · exact Or.inl (Or.inl q)
      · by_cases hik : i = k
        · subst hik; exact Or.inr ⟨by rw [e]; omega, e⟩
        · exact Or.inl (Or.inr ⟨i, by omega, e⟩)
theorem k75 {h : HP} {I J : Nat → Int → Int} {a n : Nat} {P : Int → Prop} {s : Int} {v2 : MV} (L0 : LX 0 h 2) (L : LX 7 h a) (Ln : LX 4 h n) (B : BC I J) (R : RB J) (Sh : WSh J) (hC : ShC I J n s) (ha : 9 < a) (hn : n + 3 ≠ a + 1) (hs : s = 0 ∨ s = 1) (hP : ∀ j, P j → 0 ≤ j ∧ j < J 94 0) :
    Go 75 0 [.inr (.inl (some a)), .inr (.inl (some n)), v2] [] (mI h (rowU I (a + 1) (ind P))) = some (mI h (rowU I (a + 1) (ind (Cl (Eg J s) P))), .inl none) := by
  have hT := R.1.1
  obtain ⟨T, hTT⟩ : ∃ T, T = J 94 0 := ⟨_, rfl⟩
  have e27 : ∀ f : Int → Int, rowU I (a + 1) f 2 7 = T := fun f => by rw [rowU_ne (by omega), B.1, hTT]
  rw [b75_0 L L0 (by rw [e27]; omega), e27]
  have key := lpE (fun k (Q : Int → Prop) => Go 75 6 [.inr (.inl (some a)), .inr (.inl (some n)), .inl (T - 1 - k)] [] (mI h (rowU I (a + 1) (ind Q)))) (fun k Q => (∀ j, P j → Q j) ∧ (∀ j, Q j → Cl (Eg J s) P j) ∧ ∀ x, T - 1 - k < x → x < T → Q x → ∀ b, Eg J s x b → Q b) 0 T (by omega) ?_ P ⟨fun _ q => q, fun _ q => Cl_base q, fun x a b => by omega⟩
  · obtain ⟨Q, e, q1, q2, q3⟩ := key
    have hC2 := Cl_lt R.1 (s := s) hP
    have eQ : Q = Cl (Eg J s) P := funext (fun j => propext ⟨q2 j, fun c => Cl_ind (P := Q) c q1 (fun x b hx eb => by
      have := hC2 x (q2 x hx)
      exact q3 x (by omega) (by omega) hx b eb)⟩)
    rw [show T - 1 = T - 1 - 0 by omega, e, b75_6, if_pos (by omega), b75_19, eQ]
  · intro k Q k0 k1 ⟨q1, q2, q3⟩
    have hx : 0 ≤ T - 1 - k ∧ T - 1 - k < J 94 0 := by omega
    rw [b75_6, if_neg (by omega), b75_8 L (by omega), rowU_eq]
    by_cases hq : Q (T - 1 - k)
    · refine ⟨fun j => Q j ∨ Eg J s (T - 1 - k) j, ?_, fun j q => Or.inl (q1 j q), fun j q => q.elim (q2 j) (fun q => Cl_step (q2 _ hq) q), fun x x0 x1 hx2 b eb => ?_⟩
      · rw [if_neg (by rw [ind_at]; exact fun q => q hq), b75_13 L, k74 L0 L Ln B R Sh hC ha hn hs hx, caln_v, b75_17 (by omega), show T - 1 - k + -1 = T - 1 - (k + 1) by omega]
      · by_cases hxe : x = T - 1 - k
        · subst hxe; exact Or.inr eb
        · obtain hx2 | hx2 := hx2
          · exact Or.inl (q3 x (by omega) x1 hx2 b eb)
          · have := Eg_lt R.1 hx hx2
            omega
    · refine ⟨Q, ?_, q1, q2, fun x x0 x1 hx2 b eb => ?_⟩
      · rw [if_pos (by rw [ind_at]; exact hq), b75_17 (by omega), show T - 1 - k + -1 = T - 1 - (k + 1) by omega]
      · by_cases hxe : x = T - 1 - k
        · subst hxe; exact absurd hx2 hq
        · exact q3 x (by omega) x1 hx2 b eb
