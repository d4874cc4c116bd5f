/-! ===== the class (2): a new object, in the reference ===== -/
/-- the draft can be told as an object of kind c -/
def NB (J : Nat → Int → Int) (c : Int) : Prop := (0 ≤ c ∧ c ≤ 3) ∧ (0 ≤ J 94 5 ∧ J 94 5 ≤ 12) ∧ ((c = 1 → J 94 5 % 2 = 0) ∧ (c = 2 → 2 ≤ J 94 5 ∧ J 94 5 ≤ 4) ∧ (c = 3 → J 94 5 = 1)) ∧
  (∀ j, 0 ≤ j → j < J 94 5 → 0 ≤ J 99 j ∧ J 99 j ≤ 9999) ∧ ∀ j, 0 ≤ j → j < J 94 5 → ((c = 1 ∧ j % 2 = 1) ∨ (c = 2 ∧ j ≠ 1) ∨ (c = 3 ∧ j = 0)) → 0 ≤ fnd J (J 99 j)
theorem nB_f {J : Nat → Int → Int} {c : Int} {a : Nat} (h : a < 94 ∨ 98 < a) : nB J c a = J a := by
  unfold nB nJ
  rw [rowU_ne (by omega), rowU_ne (by omega), rowU_ne (by omega), rowU_ne (by omega), rowU_ne (by omega)]
theorem nB_94 {J : Nat → Int → Int} {c k : Int} (h : k ≠ 0) : nB J c 94 k = J 94 k := by
  unfold nB
  rw [rowU_eq, up1_ne h]
theorem nB_940 {J : Nat → Int → Int} {c : Int} : nB J c 94 0 = J 94 0 + 1 := by
  unfold nB
  rw [rowU_eq, up1_eq]
theorem nB_95 {J : Nat → Int → Int} {c : Int} : nB J c 95 = up1 (J 95) (J 94 0) c := by
  unfold nB nJ
  simp only [rowU, Nat.reduceEqDiff, ↓reduceIte]
theorem nB_96 {J : Nat → Int → Int} {c : Int} : nB J c 96 = up1 (J 96) (J 94 0) (J 94 5) := by
  unfold nB nJ
  simp only [rowU, Nat.reduceEqDiff, ↓reduceIte]
theorem nB_97 {J : Nat → Int → Int} {c : Int} : nB J c 97 = fillR (J 97) (12 * J 94 0) (12 * J 94 0 + J 94 5) (fun j => J 99 (j - 12 * J 94 0)) := by
  unfold nB nJ
  simp only [rowU, Nat.reduceEqDiff, ↓reduceIte]
theorem nB_98 {J : Nat → Int → Int} {c : Int} : nB J c 98 = up1 (J 98) (J 94 0) (nN J c) := by
  unfold nB
  simp only [rowU, Nat.reduceEqDiff, ↓reduceIte]
theorem so_nB {J : Nat → Int → Int} {c k : Int} (hk : 0 ≤ k ∧ k < J 94 0) (hz : J 96 k ≤ 12) : so (nB J c) k = so J k := by
  unfold so
  rw [nB_95, nB_96, nB_97, up1_ne (by omega), up1_ne (by omega)]
  congr 1
  refine smN_c _ (fun j a b => ?_)
  exact fillR_out (by omega)
theorem so_nBn {J : Nat → Int → Int} {c : Int} (h : 0 ≤ J 94 5) : so (nB J c) (J 94 0) = nS J c := by
  unfold so nS
  rw [nB_95, nB_96, nB_97, up1_eq, up1_eq]
  congr 1
  refine smN_c _ (fun j a b => ?_)
  rw [fillR_in (by omega), show 12 * J 94 0 + j - 12 * J 94 0 = j by omega]
theorem WNm_nB {J : Nat → Int → Int} {c : Int} (R : RB J) (N : NB J c) : WNm (nB J c) := by
  have hT := R.1.1
  have hso : ∀ k, 0 ≤ k → k < J 94 0 → so (nB J c) k = so J k := fun k a b => so_nB ⟨a, b⟩ (R.1.2 k a b).1.2.2.2.1
  intro o h0 h1
  rw [nB_940] at h1
  rw [nB_98]
  by_cases e : o = J 94 0
  · subst e
    rw [up1_eq, so_nBn N.2.1.1]
    unfold nN
    congr 1
    exact cN_c _ (fun k a b => by rw [hso k a (by omega)])
  · rw [up1_ne e, hso o h0 (by omega), R.2.1 o h0 (by omega)]
    congr 1
    exact cN_c _ (fun k a b => by rw [hso k a (by omega)])
theorem Lk_nB {J : Nat → Int → Int} {c o j : Int} (h : o < J 94 0) : Lk (nB J c) o j ↔ Lk J o j := by
  unfold Lk
  rw [nB_95, nB_96, up1_ne (by omega), up1_ne (by omega)]
theorem b97_nB {J : Nat → Int → Int} {c o j : Int} (h : o < J 94 0) (h2 : j < 12) : nB J c 97 (12 * o + j) = J 97 (12 * o + j) := by
  rw [nB_97]
  exact fillR_out (by omega)
theorem b97_nBn {J : Nat → Int → Int} {c j : Int} (h0 : 0 ≤ j) (h1 : j < J 94 5) : nB J c 97 (12 * J 94 0 + j) = J 99 j := by
  rw [nB_97, fillR_in (by omega), show 12 * J 94 0 + j - 12 * J 94 0 = j by omega]
/-- names stay unlike -/
theorem NmD_of {J : Nat → Int → Int} (hT : J 94 0 ≤ 100) (N : WNm J) : NmD J := by
  have key : ∀ a b, 0 ≤ a → a < b → b < J 94 0 → J 98 a ≠ J 98 b := by
    intro a b h0 h1 h2 e
    have ea := N a h0 (by omega)
    have eb := N b (by omega) h2
    have ca := cN_b (P := fun k => so J k % 89 = so J a % 89) a.toNat
    have cb := cN_b (P := fun k => so J k % 89 = so J b % 89) b.toNat
    have hs : so J a % 89 = so J b % 89 := by omega
    have e1 : cN (fun k => so J k % 89 = so J b % 89) (a + 1).toNat = cN (fun k => so J k % 89 = so J b % 89) a.toNat + 1 := by
      rw [cN_s h0, b01_t hs]
    have e2 := cN_split (P := fun k => so J k % 89 = so J b % 89) b.toNat (a + 1).toNat (by omega)
    rw [hs] at ea
    omega
  intro a b h0 h1 h2 h3 e
  apply Classical.byContradiction
  intro q
  by_cases h : a < b
  · exact key a b h0 h h3 e
  · exact key b a h2 (by omega) h1 e.symm
theorem fnd_nB {J : Nat → Int → Int} {c x : Int} (R : RB J) (N : NB J c) (ht : J 94 0 < 100) (h : 0 ≤ fnd J x) : fnd (nB J c) x = fnd J x := by
  have hT := R.1.1
  have hf := fnd_lt (I := J) (x := x) hT.1
  have D : NmD (nB J c) := NmD_of (by rw [nB_940]; omega) (WNm_nB R N)
  have := fnd_f D (k := fnd J x) h (by rw [nB_940]; omega)
  rw [nB_98, up1_ne (by omega), hf.2.2 h] at this
  exact this
theorem atR_nB {J : Nat → Int → Int} {c o j : Int} (R : RB J) (N : NB J c) (ht : J 94 0 < 100) (h0 : 0 ≤ o) (h1 : o < J 94 0) (hl : Lk J o j) : atR (nB J c) o j = atR J o j := by
  have w := R.1.2 o h0 h1
  have l := w.2 j hl
  unfold atR
  rw [b97_nB h1 (by have := hl.2.1; omega), fnd_nB R N ht l.1]
theorem atR_nBn {J : Nat → Int → Int} {c j : Int} (R : RB J) (N : NB J c) (ht : J 94 0 < 100) (hj : 0 ≤ j ∧ j < J 94 5) (hl : 0 ≤ fnd J (J 99 j)) : atR (nB J c) (J 94 0) j = fnd J (J 99 j) := by
  unfold atR
  rw [b97_nBn hj.1 hj.2, fnd_nB R N ht hl]
theorem WB_nB {J : Nat → Int → Int} {c : Int} (R : RB J) (N : NB J c) (ht : J 94 0 < 100) : WB (nB J c) := by
  have hT := R.1.1
  refine ⟨by rw [nB_940]; omega, fun o h0 h1 => ?_⟩
  rw [nB_940] at h1
  by_cases e : o = J 94 0
  · subst e
    refine ⟨?_, fun j l => ?_⟩
    · rw [nB_95, nB_96, up1_eq, up1_eq]
      exact ⟨N.1.1, N.1.2, N.2.1.1, N.2.1.2, N.2.2.1⟩
    · have l2 : (0 ≤ j ∧ j < J 94 5) ∧ ((c = 1 ∧ j % 2 = 1) ∨ (c = 2 ∧ j ≠ 1) ∨ (c = 3 ∧ j = 0)) := by
        unfold Lk at l
        rw [nB_95, nB_96, up1_eq, up1_eq] at l
        exact ⟨⟨l.1, l.2.1⟩, l.2.2⟩
      have hn := N.2.2.2.2 j l2.1.1 l2.1.2 l2.2
      have hf := fnd_lt (I := J) (x := J 99 j) hT.1
      rw [atR_nBn R N ht l2.1 hn]
      exact ⟨hn, hf.2.1⟩
  · have w := R.1.2 o h0 (by omega)
    refine ⟨?_, fun j l => ?_⟩
    · rw [nB_95, nB_96, up1_ne e, up1_ne e]
      exact w.1
    · have l2 := (Lk_nB (by omega)).mp l
      rw [atR_nB R N ht h0 (by omega) l2]
      exact w.2 j l2
theorem RB_nB {J : Nat → Int → Int} {c : Int} (R : RB J) (N : NB J c) (ht : J 94 0 < 100) : RB (nB J c) := by
  refine ⟨WB_nB R N ht, WNm_nB R N, fun j => ?_⟩
  rw [nB_97]
  unfold fillR
  split
  · exact N.2.2.2.1 _ (by omega) (by omega)
  · exact R.2.2 j
theorem nL_nB {J : Nat → Int → Int} {c o : Int} (h : o < J 94 0) : nL (nB J c) o = nL J o := by
  unfold nL
  rw [nB_95, nB_96, up1_ne (by omega), up1_ne (by omega)]
theorem lkP_nB {J : Nat → Int → Int} {c o k : Int} (h : o < J 94 0) : lkP (nB J c) o k = lkP J o k := by
  unfold lkP
  rw [nB_95, up1_ne (by omega)]
/-- a link's place is a link's place -/
theorem lkP_l {J : Nat → Int → Int} (W : WB J) {o k : Int} (h0 : 0 ≤ o) (h1 : o < J 94 0) (hk : 0 ≤ k ∧ k < nL J o) : Lk J o (lkP J o k) := by
  have w := (W.2 o h0 h1).1
  unfold Lk lkP
  unfold nL at hk
  by_cases h : J 95 o = 1
  · have := w.2.2.2.2.1 h
    rw [if_pos h] at hk
    rw [if_pos h]
    omega
  · rw [if_neg h] at hk
    rw [if_neg h]
    by_cases h2 : J 95 o = 2
    · have := w.2.2.2.2.2.1 h2
      rw [if_pos h2] at hk
      rw [if_pos h2]
      split <;> omega
    · rw [if_neg h2] at hk
      rw [if_neg h2]
      by_cases h3 : J 95 o = 3
      · have := w.2.2.2.2.2.2 h3
        rw [if_pos h3] at hk
        omega
      · rw [if_neg h3] at hk
        omega
theorem lkR_nB {J : Nat → Int → Int} {c o k : Int} (R : RB J) (N : NB J c) (ht : J 94 0 < 100) (h0 : 0 ≤ o) (h1 : o < J 94 0) (hk : 0 ≤ k ∧ k < nL J o) : lkR (nB J c) o k = lkR J o k := by
  unfold lkR
  rw [lkP_nB h1, atR_nB R N ht h0 h1 (lkP_l R.1 h0 h1 hk)]
/-- each body is told once -/
def WU (J : Nat → Int → Int) : Prop := ∀ a b, 0 ≤ a → a < J 94 0 → 0 ≤ b → b < J 94 0 → J 95 a = J 95 b → J 96 a = J 96 b → (∀ j, 0 ≤ j → j < J 96 a → J 97 (12 * a + j) = J 97 (12 * b + j)) → a = b
theorem sB_u {J : Nat → Int → Int} (U : WU J) {c k : Int} (h0 : 0 ≤ k) (h1 : k < J 94 0) (s : sB J c k) : sm J c = k := by
  have hT : 0 ≤ J 94 0 := by omega
  have hl := lastP_lt (P := sB J c) (J 94 0).toNat
  have e : ((J 94 0).toNat : Int) = J 94 0 := Int.toNat_of_nonneg hT
  unfold sm
  by_cases hn : 0 ≤ lastP (sB J c) (J 94 0).toNat
  · have s2 := hl.2.2 hn
    exact U _ _ hn (by omega) h0 h1 (s2.1.1.trans s.1.1.symm) (s2.1.2.trans s.1.2.symm) (fun j a b => by
      rw [s2.1.2] at b
      exact (s2.2 j a b).trans (s.2 j a b).symm)
  · exact absurd s (lastP_no (P := sB J c) (J 94 0).toNat (by omega) k h0 (by omega))
theorem WU_nB {J : Nat → Int → Int} {c : Int} (R : RB J) (U : WU J) (N : NB J c) (hs : sm J c < 0) : WU (nB J c) := by
  have hT := R.1.1
  have hno : ∀ k, 0 ≤ k → k < J 94 0 → ¬sB J c k := fun k a b => lastP_no (P := sB J c) (J 94 0).toNat (by
    have := (lastP_lt (P := sB J c) (J 94 0).toNat).1
    unfold sm at hs
    omega) k a (by omega)
  have half : ∀ a, 0 ≤ a → a < J 94 0 → nB J c 95 a = nB J c 95 (J 94 0) → nB J c 96 a = nB J c 96 (J 94 0) → (∀ j, 0 ≤ j → j < nB J c 96 a → nB J c 97 (12 * a + j) = nB J c 97 (12 * J 94 0 + j)) → False := by
    intro a a0 a1 e5 e6 e7
    rw [nB_95, up1_ne (by omega), up1_eq] at e5
    rw [nB_96, up1_ne (by omega), up1_eq] at e6
    have hz := (R.1.2 a a0 a1).1.2.2.2.1
    refine hno a a0 a1 ⟨⟨e5, e6⟩, fun j j0 j1 => ?_⟩
    have := e7 j j0 (by rw [nB_96, up1_ne (by omega), e6]; exact j1)
    rw [b97_nB a1 (by omega), b97_nBn j0 j1] at this
    exact this
  intro a b a0 a1 b0 b1 e5 e6 e7
  rw [nB_940] at a1 b1
  by_cases ea : a = J 94 0
  · by_cases eb : b = J 94 0
    · rw [ea, eb]
    · subst ea
      exact (half b b0 (by omega) e5.symm e6.symm (fun j j0 j1 => (e7 j j0 (by rw [e6]; exact j1)).symm)).elim
  · by_cases eb : b = J 94 0
    · subst eb
      exact (half a a0 (by omega) e5 e6 e7).elim
    · rw [nB_95, up1_ne ea, up1_ne eb] at e5
      rw [nB_96, up1_ne ea, up1_ne eb] at e6
      refine U a b a0 (by omega) b0 (by omega) e5 e6 (fun j j0 j1 => ?_)
      have hz := (R.1.2 a a0 (by omega)).1.2.2.2.1
      have := e7 j j0 (by rw [nB_96, up1_ne ea]; exact j1)
      rw [b97_nB (by omega) (by omega), b97_nB (by omega) (by omega)] at this
      exact this
