/-! ===== the reference's methods (23): sizes by a base, depth, entries ===== -/
/-- how many follow k of which p holds, at most n -/
noncomputable def pf (p : Int → Prop) : Nat → Int → Int
  | 0, k => k
  | n + 1, k => @ite _ (p k) (Classical.propDecidable _) (pf p n (k + 1)) k
theorem pf_b {p : Int → Prop} : ∀ (n : Nat) (k : Int), k ≤ pf p n k ∧ pf p n k ≤ k + n
  | 0, k => by unfold pf; omega
  | n + 1, k => by
    have := pf_b (p := p) n (k + 1)
    unfold pf
    split <;> omega
theorem pf_c {p q : Int → Prop} : ∀ (n : Nat) (k : Int), (∀ i, k ≤ i → i < k + n → (p i ↔ q i)) → pf p n k = pf q n k
  | 0, _, _ => rfl
  | n + 1, k, h => by
    have ih := pf_c (p := p) (q := q) n (k + 1) (fun i a b => h i (by omega) (by omega))
    unfold pf
    by_cases hp : p k
    · rw [if_pos hp, if_pos ((h k (by omega) (by omega)).mp hp), ih]
    · rw [if_neg hp, if_neg (fun q => hp ((h k (by omega) (by omega)).mpr q))]
theorem lpP {R : Type} (p : Int → Prop) (L : Int → R) (Fin : Int → R) (n : Int) (hy : ∀ k, 0 ≤ k → k < n → p k → L k = L (k + 1)) (hno : ∀ k, 0 ≤ k → k < n → ¬p k → L k = Fin k) (he : L n = Fin n) (hn : 0 ≤ n) : L 0 = Fin (pf p n.toNat 0) := by
  have key : ∀ (m : Nat) (k : Int), 0 ≤ k → k + m = n → L k = Fin (pf p m k) := by
    intro m
    induction m with
    | zero => intro k _ q; have : k = n := by omega
              subst this; exact he
    | succ m ih =>
      intro k k0 q
      unfold pf
      by_cases hp : p k
      · rw [if_pos hp, hy k k0 (by omega) hp, ih (k + 1) (by omega) (by omega)]
      · rw [if_neg hp, hno k k0 (by omega) hp]
  exact key n.toNat 0 (Int.le_refl _) (by omega)
def lsI (I : Nat → Int → Int) (o b : Int) : Int := if I 96 b ≤ I 96 o then I 96 b else I 96 o
noncomputable def hdI (I : Nat → Int → Int) (o b : Int) : Int := pf (fun i => I 97 (12 * o + i) = I 97 (12 * b + i)) (lsI I o b).toNat 0
noncomputable def tlI (I : Nat → Int → Int) (o b : Int) : Int := pf (fun i => I 97 (12 * o + I 96 o - 1 - i) = I 97 (12 * b + I 96 b - 1 - i)) (lsI I o b - hdI I o b).toNat 0
/-- the size of an object by a base -/
noncomputable def dlt (I : Nat → Int → Int) (o b : Int) : Int := 2 + I 96 o - hdI I o b - tlI I o b
theorem r242 {h : HP} {I : Nat → Int → Int} {o b : Int} {v3 v4 v5 v6 v7 : MV} (L : LX 11 h 94) (ho : 0 ≤ o ∧ o < 120) (hb : 0 ≤ b ∧ b < 120) (h1 : 0 ≤ I 96 o ∧ I 96 o ≤ 12) (h2 : 0 ≤ I 96 b ∧ I 96 b ≤ 12) :
    Go 242 0 [.inr (.inl (some 94)), .inl o, .inl b, v3, v4, v5, v6, v7] [] (mI h I) = some (mI h I, .inl (some (.inl (dlt I o b)))) := by
  have hl : 0 ≤ lsI I o b ∧ lsI I o b ≤ I 96 o ∧ lsI I o b ≤ I 96 b := by
    unfold lsI
    split <;> omega
  have h16 : Go 242 0 [.inr (.inl (some 94)), .inl o, .inl b, v3, v4, v5, v6, v7] [] (mI h I) = Go 242 19 [.inr (.inl (some 94)), .inl o, .inl b, .inl (I 96 o), .inl (I 96 b), .inl (lsI I o b), .inl 0, v7] [] (mI h I) := by
    rw [b242_0 L ho hb]
    unfold lsI
    by_cases hc : I 96 b ≤ I 96 o
    · rw [if_pos hc, if_pos hc, b242_15, b242_16]
    · rw [if_neg hc, if_neg hc, b242_13, b242_16]
  rw [h16]
  have e1 := lpP (fun i => I 97 (12 * o + i) = I 97 (12 * b + i)) (fun k => Go 242 19 [.inr (.inl (some 94)), .inl o, .inl b, .inl (I 96 o), .inl (I 96 b), .inl (lsI I o b), .inl k, v7] [] (mI h I)) (fun k => Go 242 41 [.inr (.inl (some 94)), .inl o, .inl b, .inl (I 96 o), .inl (I 96 b), .inl (lsI I o b), .inl k, v7] [] (mI h I)) (lsI I o b) ?_ ?_ ?_ hl.1
  · rw [e1, b242_41]
    have hh := pf_b (p := fun i => I 97 (12 * o + i) = I 97 (12 * b + i)) (lsI I o b).toNat 0
    have e0 : pf (fun i => I 97 (12 * o + i) = I 97 (12 * b + i)) (lsI I o b).toNat 0 = hdI I o b := rfl
    rw [e0] at hh ⊢
    have e2 := lpP (fun i => I 97 (12 * o + I 96 o - 1 - i) = I 97 (12 * b + I 96 b - 1 - i)) (fun k => Go 242 43 [.inr (.inl (some 94)), .inl o, .inl b, .inl (I 96 o), .inl (I 96 b), .inl (lsI I o b), .inl (hdI I o b), .inl k] [] (mI h I)) (fun k => Go 242 75 [.inr (.inl (some 94)), .inl o, .inl b, .inl (I 96 o), .inl (I 96 b), .inl (lsI I o b), .inl (hdI I o b), .inl k] [] (mI h I)) (lsI I o b - hdI I o b) ?_ ?_ ?_ (by omega)
    · have ht := pf_b (p := fun i => I 97 (12 * o + I 96 o - 1 - i) = I 97 (12 * b + I 96 b - 1 - i)) (lsI I o b - hdI I o b).toNat 0
      have e3 : pf (fun i => I 97 (12 * o + I 96 o - 1 - i) = I 97 (12 * b + I 96 b - 1 - i)) (lsI I o b - hdI I o b).toNat 0 = tlI I o b := rfl
      rw [e3] at ht
      rw [e2, e3, b242_75 (by omega) (by omega) (by omega)]
      rfl
    · intro k k0 k1 hp
      rw [b242_43 (by omega), if_neg (by omega), b242_48 L (by omega) (by omega) (by omega) (by omega) (by omega) (by omega) (by omega) (by omega) (by omega) (by omega), if_neg (fun q => q hp), b242_73 (by omega)]
    · intro k k0 k1 hp
      rw [b242_43 (by omega), if_neg (by omega), b242_48 L (by omega) (by omega) (by omega) (by omega) (by omega) (by omega) (by omega) (by omega) (by omega) (by omega), if_pos hp]
    · rw [b242_43 (by omega), if_pos (Int.le_refl _)]
  · intro k k0 k1 hp
    rw [b242_19, if_neg (by omega), b242_22 L (by omega) (by omega) (by omega) (by omega) (by omega) (by omega), if_neg (fun q => q hp), b242_39 (by omega)]
  · intro k k0 k1 hp
    rw [b242_19, if_neg (by omega), b242_22 L (by omega) (by omega) (by omega) (by omega) (by omega) (by omega), if_pos hp]
  · rw [b242_19, if_pos (Int.le_refl _)]
/-- how deep a place is by bases -/
def dF (bs : Int → Int) : Nat → Int → Int
  | 0, _ => 0
  | n + 1, e => if bs e < 0 then 0 else 1 + dF bs n (bs e)
theorem dF_b {bs : Int → Int} : ∀ (n : Nat) (e : Int), 0 ≤ dF bs n e ∧ dF bs n e ≤ n
  | 0, e => by unfold dF; omega
  | n + 1, e => by
    have := dF_b (bs := bs) n (bs e)
    unfold dF
    split <;> omega
theorem dF_f {bs : Int → Int} : ∀ (n m : Nat) (e : Int), 0 ≤ e → (∀ k, 0 ≤ k → k ≤ e → bs k < k) → e < n → e < m → dF bs n e = dF bs m e
  | 0, m, e, h0, _, hn, _ => by omega
  | n + 1, 0, e, h0, _, _, hm => by omega
  | n + 1, m + 1, e, h0, hw, hn, hm => by
    have hb := hw e h0 (Int.le_refl _)
    unfold dF
    by_cases hc : bs e < 0
    · rw [if_pos hc, if_pos hc]
    · rw [if_neg hc, if_neg hc, dF_f n m (bs e) (by omega) (fun k a b => hw k a (by omega)) (by omega) (by omega)]
theorem dF_c {bs cs : Int → Int} : ∀ (n : Nat) (e : Int), 0 ≤ e → (∀ k, 0 ≤ k → k ≤ e → bs k < k ∧ bs k = cs k) → dF bs n e = dF cs n e
  | 0, _, _, _ => rfl
  | n + 1, e, h0, hw => by
    have hb := hw e h0 (Int.le_refl _)
    unfold dF
    rw [← hb.2]
    by_cases hc : bs e < 0
    · rw [if_pos hc, if_pos hc]
    · rw [if_neg hc, if_neg hc, dF_c n (bs e) (by omega) (fun k a b => hw k a (by omega))]
def dpt (I : Nat → Int → Int) (p e : Int) : Int := dF (fun k => I 113 (120 * p + k)) (e + 1).toNat e
theorem dpt_e {I : Nat → Int → Int} {p e : Int} (h0 : 0 ≤ e) (hw : ∀ k, 0 ≤ k → k ≤ e → I 113 (120 * p + k) < k) : dpt I p e = if I 113 (120 * p + e) < 0 then 0 else 1 + dpt I p (I 113 (120 * p + e)) := by
  have hb := hw e h0 (Int.le_refl _)
  have hd : (e + 1).toNat = e.toNat + 1 := by omega
  unfold dpt
  rw [hd]
  show (if I 113 (120 * p + e) < 0 then 0 else 1 + dF (fun k => I 113 (120 * p + k)) e.toNat (I 113 (120 * p + e))) = _
  by_cases hc : I 113 (120 * p + e) < 0
  · rw [if_pos hc, if_pos hc]
  · rw [if_neg hc, if_neg hc, dF_f e.toNat (I 113 (120 * p + e) + 1).toNat _ (by omega) (fun k a b => hw k a (by omega)) (by omega) (by omega)]
theorem dpt_b {I : Nat → Int → Int} {p e : Int} (h0 : 0 ≤ e) : 0 ≤ dpt I p e ∧ dpt I p e ≤ e + 1 := by
  have := dF_b (bs := fun k => I 113 (120 * p + k)) (e + 1).toNat e
  unfold dpt
  omega
theorem r241 {h : HP} {I : Nat → Int → Int} {p e : Int} {v3 v4 : MV} (L : LX 11 h 94) (hp : 0 ≤ p ∧ p < 40) (he : 0 ≤ e ∧ e < 100) (hw : ∀ k, 0 ≤ k → k ≤ e → -1 ≤ I 113 (120 * p + k) ∧ I 113 (120 * p + k) < k) :
    Go 241 0 [.inr (.inl (some 94)), .inl p, .inl e, v3, v4] [] (mI h I) = some (mI h I, .inl (some (.inl (dpt I p e)))) := by
  rw [b241_0 L (by omega) (by omega) (by omega)]
  have hb := dpt_b (I := I) (p := p) he.1
  refine lpW (fun x : Int × Int => Go 241 11 [.inr (.inl (some 94)), .inl p, .inl e, .inl x.1, .inl x.2] [] (mI h I)) (fun x => 0 ≤ x.1 ∧ (-1 ≤ x.2 ∧ x.2 < e) ∧ x.1 + (if x.2 < 0 then 0 else 1 + dpt I p x.2) = dpt I p e) (fun r => r = some (mI h I, .inl (some (.inl (dpt I p e))))) (fun x => (x.2 + 1).toNat) ?_ (0, I 113 (120 * p + e)) ⟨Int.le_refl _, hw e he.1 (Int.le_refl _), ?_⟩
  · rintro ⟨n, k⟩ ⟨q1, q2, q3⟩
    dsimp only at q1 q2 q3 ⊢
    by_cases hk : k < 0
    · left
      rw [if_pos hk] at q3
      rw [b241_11, if_pos hk, b241_24, ← q3, Int.add_zero]
    · right
      have hwk := hw k (by omega) (by omega)
      have hbk := dpt_b (I := I) (p := p) (e := k) (by omega)
      rw [if_neg hk] at q3
      refine ⟨(n + 1, I 113 (120 * p + k)), ?_, ⟨by dsimp only; omega, by dsimp only; omega, ?_⟩, by dsimp only; omega⟩
      · rw [b241_11, if_neg hk, b241_13 (by omega) L (by omega) (by omega) (by omega)]
      · dsimp only
        rw [dpt_e (by omega) (fun j a b => (hw j a (by omega)).2)] at q3
        rw [← q3]
        omega
  · dsimp only
    rw [dpt_e he.1 (fun j a b => (hw j a b).2), Int.zero_add]
/-- an entry more -/
def en (I : Nat → Int → Int) (p o b : Int) : Nat → Int → Int :=
  rowU (rowU (rowU (rowU I 112 (up1 (I 112) (120 * p + I 111 p) o)) 113 (up1 (I 113) (120 * p + I 111 p) b)) 114 (up1 (I 114) (120 * p + I 111 p) 0)) 111 (up1 (I 111) p (I 111 p + 1))
theorem r243 {h : HP} {I : Nat → Int → Int} {p o b : Int} {v4 : MV} (L : LX 11 h 94) (hp : 0 ≤ p ∧ p < 40) (hm : 0 ≤ I 111 p ∧ I 111 p < 120) : Go 243 0 [.inr (.inl (some 94)), .inl p, .inl o, .inl b, v4] [] (mI h I) = some (mI h (en I p o b), .inl (some (.inl (I 111 p)))) := by
  have e1 : zu2 (zu2 (zu2 I 112 (120 * p + I 111 p) o) 113 (120 * p + I 111 p) b) 114 (120 * p + I 111 p) 0 111 p = I 111 p := by
    rw [zu2_row, rowU_ne (by decide), zu2_row, rowU_ne (by decide), zu2_row, rowU_ne (by decide)]
  rw [b243_0 L hp (by omega) (by omega) (by omega) (by rw [e1]; omega), e1]
  simp only [zu2_row, rowU, Nat.reduceEqDiff, ↓reduceIte]
  rfl
theorem en_f {I : Nat → Int → Int} {p o b : Int} {a : Nat} (h : a < 111 ∨ 114 < a) : en I p o b a = I a := by
  unfold en
  rw [rowU_ne (by omega), rowU_ne (by omega), rowU_ne (by omega), rowU_ne (by omega)]
/-- the entry of an object in a pack: -1 for none -/
noncomputable def eo (I : Nat → Int → Int) (p o : Int) : Int := lastP (fun k => I 112 (120 * p + k) = o) (I 111 p).toNat
theorem r244 {h : HP} {I : Nat → Int → Int} {p o : Int} {v3 v4 : MV} (L : LX 11 h 94) (hp : 0 ≤ p ∧ p < 40) (hm : 0 ≤ I 111 p ∧ I 111 p ≤ 120) : Go 244 0 [.inr (.inl (some 94)), .inl p, .inl o, v3, v4] [] (mI h I) = some (mI h I, .inl (some (.inl (eo I p o)))) := by
  rw [b244_0]
  have key := lpU (fun k => Go 244 4 [.inr (.inl (some 94)), .inl p, .inl o, .inl (lastP (fun k => I 112 (120 * p + k) = o) k.toNat), .inl k] [] (mI h I)) 0 (I 111 p) hm.1 ?_
  · refine Eq.trans key ?_
    rw [b244_4 L hp, if_pos (Int.le_refl _), b244_26]
    rfl
  · intro k h0 h1
    rw [b244_4 L hp, if_neg (by omega), b244_10 L (by omega) (by omega) (by omega)]
    by_cases hc : I 112 (120 * p + k) = o
    · rw [if_neg (fun q => q hc), b244_20, b244_23 (by omega), lastP_t h0 hc]
    · rw [if_pos hc, b244_22, b244_23 (by omega), lastP_f h0 hc]
theorem eo_b {I : Nat → Int → Int} {p o : Int} (hm : 0 ≤ I 111 p) : -1 ≤ eo I p o ∧ eo I p o < I 111 p ∧ (0 ≤ eo I p o → I 112 (120 * p + eo I p o) = o) := by
  have := lastP_lt (P := fun k => I 112 (120 * p + k) = o) (I 111 p).toNat
  rw [Int.toNat_of_nonneg hm] at this
  exact this
