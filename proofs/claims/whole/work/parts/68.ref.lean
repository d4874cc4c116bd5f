/-! ===== the reference's methods (19): generations ===== -/
/-- no version comes from itself, even if none was shallow -/
def AC (I : Nat → Int → Int) : Prop := ∀ s, s = 0 ∨ s = 1 → ∃ ρ : Int → Int, ∀ a b, Vs I a → Es I s 1 a b → ρ b < ρ a
theorem AC_b {I : Nat → Int → Int} (A : AC I) (W : WB I) (N : WN I) (V : WV I) {s : Int} (hs : s = 0 ∨ s = 1) : ∃ ρ : Int → Int, (∀ a, 0 ≤ ρ a ∧ ρ a ≤ I 94 0) ∧ (∀ a, Vs I a → ρ a < I 94 0) ∧ ∀ a b, Vs I a → Es I s 1 a b → ρ b < ρ a := by
  obtain ⟨ρ, h⟩ := A s hs
  have ht := W.1
  have e0 : ((I 94 0).toNat : Int) = I 94 0 := Int.toNat_of_nonneg ht.1
  refine ⟨fun a => cN (fun x => Vs I x ∧ ρ x < ρ a) (I 94 0).toNat, fun a => ?_, fun a v => ?_, fun a b v e => ?_⟩
  · have := cN_b (P := fun x => Vs I x ∧ ρ x < ρ a) (I 94 0).toNat
    dsimp only
    omega
  · have h1 := cN_lt (P := fun x => Vs I x ∧ ρ x < ρ a) (Q := fun _ => True) (b := a) v.1.1 trivial (fun q => by have := q.2; omega) (I 94 0).toNat (by have := v.1.2; omega) (fun _ _ _ _ => trivial)
    have h2 := cN_b (P := fun _ => True) (I 94 0).toNat
    dsimp only
    omega
  · have vb := Es_v W N V hs v e
    exact cN_lt (b := b) vb.1.1 ⟨vb, h a b v e⟩ (fun q => by have := q.2; omega) _ (by have := vb.1.2; omega) (fun k _ _ q => ⟨q.1, by have := h a b v e; have := q.2; omega⟩)
theorem Es_1 {I : Nat → Int → Int} {s d a b : Int} (e : Es I s d a b) : Es I s 1 a b := ⟨Or.inl (by decide), e.2⟩
/-- generations of a set -/
def Gn (E : Int → Int → Prop) (P : Int → Prop) (f : Int → Int) : Prop := ∀ k, P k → 1 ≤ f k ∧ (∀ b, E k b → f b + 1 ≤ f k) ∧ (f k = 1 ∨ ∃ b, E k b ∧ f k = f b + 1)
def smZ (g : Int → Nat) : Nat → Nat
  | 0 => 0
  | n + 1 => smZ g n + g n
theorem smZ_le {f g : Int → Nat} : ∀ n : Nat, (∀ k : Int, 0 ≤ k → k < n → f k ≤ g k) → smZ f n ≤ smZ g n
  | 0, _ => Nat.le_refl _
  | n + 1, h => by
    have ih := smZ_le (f := f) (g := g) n (fun k a b => h k a (by omega))
    have := h n (by omega) (by omega)
    unfold smZ
    omega
theorem smZ_lt {f g : Int → Nat} {b : Int} (h0 : 0 ≤ b) (hb : f b < g b) : ∀ n : Nat, b < n → (∀ k : Int, 0 ≤ k → k < n → f k ≤ g k) → smZ f n < smZ g n
  | 0, q, _ => by omega
  | n + 1, q, h => by
    unfold smZ
    have := h n (by omega) (by omega)
    by_cases hn : b = n
    · have ih := smZ_le (f := f) (g := g) n (fun k a b => h k a (by omega))
      rw [← hn] at this ⊢
      omega
    · have ih := smZ_lt h0 hb n (by omega) (fun k a b => h k a (by omega))
      omega
theorem zor_n {p q : Prop} {t : Int} (h : t = b01 q) : zor (b01 p) t = b01 (p ∨ q) := by rw [h, zor_b]
theorem r229a {h : HP} {I : Nat → Int → Int} {P : Int → Prop} {f : Int → Int} {g : Prop} {s k : Int} {v4 v5 v6 : MV} (L : LX 11 h 94) (W : WB I) (N : WN I) (V : WV I) (hs : s = 0 ∨ s = 1) (hk : Vs I k) (hp : P k) (hf : ∀ j, 0 ≤ j → j < I 94 0 → 1 ≤ f j ∧ f j ≤ 1000) (hne : ∀ b, Es I s 1 k b → b ≠ k) :
    ∃ (v : Int) (w4 w5 w6 : MV), Go 229 21 [.inr (.inl (some 94)), .inl s, .inl (b01 g), .inl k, v4, v5, v6] [] (mI h (rowU (rowU I 133 (ind P)) 138 f)) = Go 229 21 [.inr (.inl (some 94)), .inl s, .inl (b01 (g ∨ f k < v)), .inl (k + 1), w4, w5, w6] [] (mI h (rowU (rowU I 133 (ind P)) 138 (up1 f k v))) ∧
      f k ≤ v ∧ (∀ b, Es I s 0 k b → f b + 1 ≤ v) ∧ (v = f k ∨ ∃ b, Es I s 0 k b ∧ v = f b + 1) := by
  have ht := WB_t W
  have hkl := hk.1
  have hv := sa_v N V hs hk.1 hk.2
  have hvl := hv.1
  have hw := (W.2 _ hv.1.1 hv.1.2).1.2.2.2.2.2.1 hv.2
  have N2 : WN (rowU (rowU I 133 (ind P)) 138 f) := N
  have sa2 : sa (rowU (rowU I 133 (ind P)) 138 f) = sa I := by rw [sa_U (by decide), sa_U (by decide)]
  have h39 : Go 229 21 [.inr (.inl (some 94)), .inl s, .inl (b01 g), .inl k, v4, v5, v6] [] (mI h (rowU (rowU I 133 (ind P)) 138 f)) = Go 229 39 [.inr (.inl (some 94)), .inl s, .inl (b01 g), .inl k, .inl (sa I s k), .inl 2, v6] [] (mI h (rowU (rowU I 133 (ind P)) 138 f)) := by
    rw [b229_21 L]
    simp only [rowU, Nat.reduceEqDiff, ↓reduceIte]
    rw [if_neg (by omega), b229_25 L (by omega)]
    simp only [rowU, Nat.reduceEqDiff, ↓reduceIte, ind, b01_t hp]
    rw [if_neg neg1_ne]
    have := r225 (h := h) (I := rowU (rowU I 133 (ind P)) 138 f) (s := s) (o := k) (v3 := vU) L N2 hs (by omega)
    rw [sa2] at this
    rw [b229_30 L, this, caln_r, b229_34, b229_36]
  rw [h39]
  clear h39
  generalize ha : sa I s k = a at *
  by_cases hsh : I 116 (120 * s + a) = 0
  · have hE : ∀ b, Es I s 0 k b ↔ Sb I a (I 96 a) b := fun b => by
      unfold Es
      rw [ha]
      exact ⟨And.right, fun q => ⟨Or.inr hsh, q⟩⟩
    have key := lpE (fun m (x : Int × Prop × MV) => Go 229 39 [.inr (.inl (some 94)), .inl s, .inl (b01 x.2.1), .inl k, .inl a, .inl m, x.2.2] [] (mI h (rowU (rowU I 133 (ind P)) 138 (up1 f k x.1))))
      (fun m x => f k ≤ x.1 ∧ x.1 ≤ 1001 ∧ (∀ b, Sb I a m b → f b + 1 ≤ x.1) ∧ (x.1 = f k ∨ ∃ b, Sb I a m b ∧ x.1 = f b + 1) ∧ x.2.1 = (g ∨ f k < x.1)) 2 (I 96 a) hw.1 ?_ (f k, g, v6) ⟨Int.le_refl _, by have := (hf k hkl.1 hkl.2).2; dsimp only; omega, fun b ⟨j, q1, q2, _⟩ => by omega, Or.inl rfl, propext ⟨Or.inl, fun q => q.elim id (fun q => by dsimp only at q; omega)⟩⟩
    · obtain ⟨⟨v, g1, w⟩, e, q1, q2, q3, q4, q5⟩ := key
      dsimp only at e q1 q2 q3 q4 q5
      refine ⟨v, .inl a, .inl (I 96 a), w, ?_, q1, fun b q => q3 b ((hE b).mp q), q4.imp id (fun ⟨b, x, y⟩ => ⟨b, (hE b).mpr x, y⟩)⟩
      rw [up1_id rfl] at e
      rw [e, b229_39 L (by omega)]
      simp only [rowU, Nat.reduceEqDiff, ↓reduceIte, ind, b01_t hp]
      rw [if_neg neg1_ne, b229_44 L (by omega)]
      simp only [rowU, Nat.reduceEqDiff, ↓reduceIte]
      rw [if_pos (Int.le_refl _), b229_99 (by omega), q5]
    · rintro m ⟨v, g1, w⟩ m0 m1 ⟨q1, q2, q3, q4, q5⟩
      dsimp only at q1 q2 q3 q4 q5 ⊢
      have hp2 := Vs_p W V hv m0 m1
      have hpl := hp2.1.1
      have hE1 : Es I s 1 k (atR I a m) := ⟨Or.inl (by decide), by rw [ha]; exact ⟨m, m0, m1, rfl⟩⟩
      have hnk := hne _ hE1
      have hfb := hf _ hpl.1 hpl.2
      revert q4
      have h66 : Go 229 39 [.inr (.inl (some 94)), .inl s, .inl (b01 g1), .inl k, .inl a, .inl m, w] [] (mI h (rowU (rowU I 133 (ind P)) 138 (up1 f k v))) = if 1 + f (atR I a m) ≤ v then Go 229 78 [.inr (.inl (some 94)), .inl s, .inl (b01 g1), .inl k, .inl a, .inl m, .inl (1 + f (atR I a m))] [.inl (b01 g1)] (mI h (rowU (rowU I 133 (ind P)) 138 (up1 f k v))) else Go 229 76 [.inr (.inl (some 94)), .inl s, .inl (b01 g1), .inl k, .inl a, .inl m, .inl (1 + f (atR I a m))] [.inl (b01 g1)] (mI h (rowU (rowU I 133 (ind P)) 138 (up1 f k v))) := by
        have e138 : rowU (rowU I 133 (ind P)) 138 (up1 f k v) 138 (atR I a m) = f (atR I a m) := by rw [rowU_eq, up1_ne hnk]
        have e138k : rowU (rowU I 133 (ind P)) 138 (up1 f k v) 138 k = v := by rw [rowU_eq, up1_eq]
        have e133 : rowU (rowU I 133 (ind P)) 138 (up1 f k v) 133 k = 1 := by rw [rowU_ne (by decide), rowU_eq]; exact b01_t hp
        have e96 : rowU (rowU I 133 (ind P)) 138 (up1 f k v) 96 = I 96 := by rw [rowU_ne (by decide), rowU_ne (by decide)]
        have e116 : rowU (rowU I 133 (ind P)) 138 (up1 f k v) 116 = I 116 := by rw [rowU_ne (by decide), rowU_ne (by decide)]
        have ht2 : 0 ≤ rowU (rowU I 133 (ind P)) 138 (up1 f k v) 94 0 ∧ rowU (rowU I 133 (ind P)) 138 (up1 f k v) 94 0 ≤ 120 := by rw [rowU_ne (by decide), rowU_ne (by decide)]; exact ht
        rw [b229_39 L (by omega), e133, if_neg neg1_ne, b229_44 L (by omega), e96, if_neg (by omega), b229_50 L (by omega) (by omega) (by omega), e116, if_neg (fun q => q hsh), b229_59 L, r169 L ht2 (by omega) (by omega), atR_U (by decide), atR_U (by decide), caln_r,
          b229_66 L (by omega) (by rw [e138]; omega) (by omega), e138, e138k]
      intro q4
      have hst : ∀ z, zu2 (rowU (rowU I 133 (ind P)) 138 (up1 f k v)) 138 k z = rowU (rowU I 133 (ind P)) 138 (up1 f k z) := by
        intro z
        rw [zu2_row, rowU_tw, rowU_eq]
        congr 1
        funext j
        unfold up1
        split <;> rfl
      have e138k : rowU (rowU I 133 (ind P)) 138 (up1 f k v) 138 k = v := by rw [rowU_eq, up1_eq]
      have hS : ∀ b, Sb I a (m + 1) b ↔ Sb I a m b ∨ b = atR I a m := Sb_s m0
      by_cases hc : 1 + f (atR I a m) ≤ v
      · refine ⟨(v, g1, .inl (1 + f (atR I a m))), ?_, q1, q2, fun b q => ?_, q4.imp id (fun ⟨b, x, y⟩ => ⟨b, (hS b).mpr (Or.inl x), y⟩), q5⟩
        · rw [h66, if_pos hc, b229_78, b229_79 L (by omega), e138k, if_pos hc, zor_0, b229_92 L (by omega), e138k, b229_96 L (by omega) (by omega), hst]
        · obtain q | q := (hS b).mp q
          · exact q3 b q
          · rw [q]; dsimp only; omega
      · refine ⟨(1 + f (atR I a m), True, .inl (1 + f (atR I a m))), ?_, by dsimp only; omega, by dsimp only; omega, fun b q => ?_, Or.inr ⟨atR I a m, (hS _).mpr (Or.inr rfl), by dsimp only; omega⟩, propext ⟨fun _ => Or.inr (by dsimp only; omega), fun _ => trivial⟩⟩
        · rw [h66, if_neg hc, b229_76, b229_79 L (by omega), e138k, if_neg hc, zor_1, b229_90, b229_96 L (by omega) (by omega), hst, b01_t trivial]
        · dsimp only
          obtain q | q := (hS b).mp q
          · have := q3 b q; omega
          · rw [q]; omega
  · have hE : ∀ b, ¬ Es I s 0 k b := fun b q => q.1.elim (fun q => q rfl) (fun q => hsh (ha ▸ q))
    refine ⟨f k, .inl a, .inl 2, v6, ?_, Int.le_refl _, fun b q => absurd q (hE b), Or.inl rfl⟩
    rw [up1_id rfl, show (g ∨ f k < f k) = g from propext ⟨fun q => q.elim id (fun q => by omega), Or.inl⟩, b229_39 L (by omega)]
    simp only [rowU, Nat.reduceEqDiff, ↓reduceIte, ind, b01_t hp]
    rw [if_neg neg1_ne, b229_44 L (by omega)]
    simp only [rowU, Nat.reduceEqDiff, ↓reduceIte]
    by_cases hz : I 96 a ≤ 2
    · rw [if_pos hz, b229_99 (by omega)]
    · rw [if_neg hz, b229_50 L (by omega) (by omega) (by omega)]
      simp only [rowU, Nat.reduceEqDiff, ↓reduceIte]
      rw [if_pos hsh, b229_99 (by omega)]
