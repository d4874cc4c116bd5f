/-! ===== the reference's methods (15): seen parents ===== -/
/-- of what kinds links are; what a version is seen as is a version -/
def WV (I : Nat → Int → Int) : Prop := (∀ o, 0 ≤ o → o < I 94 0 → ∀ j, Lk I o j → (I 95 o = 1 → I 95 (atR I o j) < 2) ∧ (I 95 o = 2 → j = 0 → I 95 (atR I o j) = 1) ∧ (I 95 o = 2 → 2 ≤ j → I 95 (atR I o j) = 2) ∧ (I 95 o = 3 → I 95 (atR I o j) = 2)) ∧
  ∀ s o, s = 0 ∨ s = 1 → 0 ≤ o → o < I 94 0 → I 95 o = 2 → I 118 (120 * s + o) ≠ 0 → I 118 (120 * s + o) - 1 < I 94 0 ∧ I 95 (I 118 (120 * s + o) - 1) = 2
theorem WV_U {I : Nat → Int → Int} {a : Nat} {f : Int → Int} (ha : 119 ≤ a) : WV (rowU I a f) = WV I := by
  unfold WV
  rw [atR_U (by omega), Lk_U (by omega), rowU_ne (by omega), rowU_ne (by omega), rowU_ne (by omega)]
theorem WN_U {I : Nat → Int → Int} {a : Nat} {f : Int → Int} (ha : 119 ≤ a) : WN (rowU I a f) = WN I := by
  unfold WN
  rw [rowU_ne (by omega)]
theorem sa_U {I : Nat → Int → Int} {a : Nat} {f : Int → Int} (ha : 119 ≤ a) : sa (rowU I a f) = sa I := by
  unfold sa
  rw [rowU_ne (by omega)]
theorem sa_v {I : Nat → Int → Int} (N : WN I) (V : WV I) {s o : Int} (hs : s = 0 ∨ s = 1) (ho : 0 ≤ o ∧ o < I 94 0) (hk : I 95 o = 2) : (0 ≤ sa I s o ∧ sa I s o < I 94 0) ∧ I 95 (sa I s o) = 2 := by
  unfold sa
  by_cases h0 : I 118 (120 * s + o) = 0
  · rw [if_pos h0]; exact ⟨ho, hk⟩
  · have := V.2 s o hs ho.1 ho.2 hk h0
    have n := N (120 * s + o)
    rw [if_neg h0]
    exact ⟨⟨by omega, this.1⟩, this.2⟩
/-- a version's seen parents below a place -/
def Sb (I : Nat → Int → Int) (a m b : Int) : Prop := ∃ j, 2 ≤ j ∧ j < m ∧ b = atR I a j
def Es (I : Nat → Int → Int) (s d a b : Int) : Prop := (d ≠ 0 ∨ I 116 (120 * s + sa I s a) = 0) ∧ Sb I (sa I s a) (I 96 (sa I s a)) b
theorem Sb_s {I : Nat → Int → Int} {a m : Int} (hm : 2 ≤ m) (b : Int) : Sb I a (m + 1) b ↔ Sb I a m b ∨ b = atR I a m := by
  constructor
  · rintro ⟨j, h1, h2, h3⟩
    by_cases hj : j = m
    · subst hj; exact Or.inr h3
    · exact Or.inl ⟨j, h1, by omega, h3⟩
  · rintro (⟨j, h1, h2, h3⟩ | h3)
    · exact ⟨j, h1, by omega, h3⟩
    · exact ⟨m, hm, by omega, h3⟩
/-- versions -/
def Vs (I : Nat → Int → Int) (j : Int) : Prop := (0 ≤ j ∧ j < I 94 0) ∧ I 95 j = 2
theorem Lk_p {I : Nat → Int → Int} {o j : Int} (hk : I 95 o = 2) (h2 : 2 ≤ j) (hj : j < I 96 o) : Lk I o j := ⟨by omega, hj, Or.inr (Or.inl ⟨hk, by omega⟩)⟩
theorem Vs_p {I : Nat → Int → Int} (W : WB I) (V : WV I) {o j : Int} (ho : Vs I o) (h2 : 2 ≤ j) (hj : j < I 96 o) : Vs I (atR I o j) ∧ atR I o j < o := by
  have l := Lk_p ho.2 h2 hj
  have w := (W.2 o ho.1.1 ho.1.2).2 j l
  exact ⟨⟨⟨w.1, Int.lt_trans w.2 ho.1.2⟩, (V.1 o ho.1.1 ho.1.2 j l).2.2.1 ho.2 h2⟩, w.2⟩
theorem Es_v {I : Nat → Int → Int} (W : WB I) (N : WN I) (V : WV I) {s d a b : Int} (hs : s = 0 ∨ s = 1) (ha : Vs I a) (e : Es I s d a b) : Vs I b := by
  obtain ⟨-, j, h1, h2, rfl⟩ := e
  exact (Vs_p W V (sa_v N V hs ha.1 ha.2) h1 h2).1
theorem r226a {h : HP} {I : Nat → Int → Int} {P : Int → Prop} {g : Prop} {s d k : Int} {v5 v6 : MV} (L : LX 11 h 94) (W : WB I) (N : WN I) (V : WV I) (hs : s = 0 ∨ s = 1) (hk : Vs I k) :
    ∃ w5 w6, Go 226 17 [.inr (.inl (some 94)), .inl s, .inl d, .inl (b01 g), .inl k, v5, v6] [] (mI h (rowU I 133 (ind P))) = Go 226 8 [.inr (.inl (some 94)), .inl s, .inl d, .inl (b01 (g ∨ ∃ b, Es I s d k b ∧ ¬P b)), .inl (k + 1), w5, w6] [] (mI h (rowU I 133 (ind (fun j => P j ∨ Es I s d k j)))) := by
  have ht := W.1
  have NU : ∀ Q : Int → Prop, WN (rowU I 133 (ind Q)) := fun Q => by rw [WN_U (by decide)]; exact N
  have ht2 : ∀ Q : Int → Prop, 0 ≤ rowU I 133 (ind Q) 94 0 ∧ rowU I 133 (ind Q) 94 0 ≤ 120 := fun Q => by rw [rowU_ne (by decide)]; exact WB_t W
  have eat : ∀ (Q : Int → Prop) (a j : Int), atR (rowU I 133 (ind Q)) a j = atR I a j := fun Q a j => by rw [atR_U (by decide)]
  have hv := sa_v N V hs hk.1 hk.2
  have hkl := hk.1
  have hw := (W.2 _ hv.1.1 hv.1.2).1
  have hsz := hw.2.2.2.2.2.1 hv.2
  have hpar : ∀ j, 2 ≤ j → j < I 96 (sa I s k) → 0 ≤ atR I (sa I s k) j ∧ atR I (sa I s k) j < 120 := fun j a b => by
    have := (Vs_p W V hv a b).1.1
    omega
  rw [b226_17 L, r225 L (NU P) hs (by omega), caln_r, b226_21, sa_U (by decide)]
  generalize ha : sa I s k = a at *
  have done : ∀ Q : Int → Prop, ∀ q : Prop, ∀ m : Int, (∀ b, Es I s d k b ↔ Q b) → Go 226 52 [.inr (.inl (some 94)), .inl s, .inl d, .inl (b01 (g ∨ ∃ b, Q b ∧ ¬P b)), .inl k, .inl a, .inl m] [] (mI h (rowU I 133 (ind (fun j => P j ∨ Q j)))) = Go 226 8 [.inr (.inl (some 94)), .inl s, .inl d, .inl (b01 (g ∨ ∃ b, Es I s d k b ∧ ¬P b)), .inl (k + 1), .inl a, .inl m] [] (mI h (rowU I 133 (ind (fun j => P j ∨ Es I s d k j)))) := by
    intro Q q m hQ
    rw [b226_52 (by omega)]
    simp only [hQ]
  by_cases hsh : d ≠ 0 ∨ I 116 (120 * s + a) = 0
  · have hE : ∀ b, Es I s d k b ↔ Sb I a (I 96 a) b := fun b => by
      unfold Es
      rw [ha]
      exact ⟨And.right, fun q => ⟨hsh, q⟩⟩
    have key := lpU (fun m => Go 226 24 [.inr (.inl (some 94)), .inl s, .inl d, .inl (b01 (g ∨ ∃ b, Sb I a m b ∧ ¬P b)), .inl k, .inl a, .inl m] [] (mI h (rowU I 133 (ind (fun j => P j ∨ Sb I a m j))))) 2 (I 96 a) hsz.1 ?_
    · have z : ∀ b, ¬ Sb I a 2 b := fun b ⟨j, h1, h2, _⟩ => by omega
      simp only [z, false_and, exists_false, or_false] at key
      refine ⟨.inl a, .inl (I 96 a), ?_⟩
      rw [← done _ True (I 96 a) hE]
      refine Eq.trans key ?_
      rw [b226_24 L (by omega)]
      simp only [rowU, Nat.reduceEqDiff, ↓reduceIte, Int.le_refl]
    · intro m m0 m1
      have hm : ¬ I 96 a ≤ m := by omega
      have hp := hpar m m0 m1
      have h41 : ∀ (Q : Int → Prop) (x : Int), Go 226 24 [.inr (.inl (some 94)), .inl s, .inl d, .inl x, .inl k, .inl a, .inl m] [] (mI h (rowU I 133 (ind Q))) = Go 226 41 [.inr (.inl (some 94)), .inl s, .inl d, .inl x, .inl k, .inl a, .inl m] [] (mI h (rowU I 133 (ind Q))) := by
        intro Q x
        rw [b226_24 L (by omega)]
        simp only [rowU, Nat.reduceEqDiff, ↓reduceIte, hm]
        rw [b226_30]
        by_cases hd : d = 0
        · rw [if_neg (fun q => q hd), b226_32 L (by omega) (by omega) (by omega)]
          simp only [rowU, Nat.reduceEqDiff, ↓reduceIte]
          rw [if_neg (fun q => q (hsh.resolve_left (fun q => q hd)))]
        · rw [if_pos hd]
      rw [h41, b226_41 L, r169 L (ht2 _) (by omega) (by omega), eat, caln_r, b226_47 L, r170 L hp, caln_r, b226_48 (by omega), zor_b, ind_st1 (Sb_s m0)]
      have e : b01 ((g ∨ ∃ b, Sb I a m b ∧ ¬P b) ∨ ¬(P (atR I a m) ∨ Sb I a m (atR I a m))) = b01 (g ∨ ∃ b, Sb I a (m + 1) b ∧ ¬P b) := by
        have := ind_st2 (P := P) (Sb_s (I := I) (a := a) m0)
        by_cases hg : g
        · rw [b01_t (Or.inl (Or.inl hg)), b01_t (Or.inl hg)]
        · rw [b01_c (p := (g ∨ _) ∨ _) (q := (∃ b, Sb I a m b ∧ ¬P b) ∨ ¬(P (atR I a m) ∨ Sb I a m (atR I a m))) (by simp only [hg, false_or]), b01_c (p := g ∨ _) (q := ∃ b, Sb I a (m + 1) b ∧ ¬P b) (by simp only [hg, false_or])]
          exact this
      rw [e]
  · have hE : ∀ b, ¬ Es I s d k b := fun b q => hsh (ha ▸ q.1)
    have hd : d = 0 := Classical.byContradiction (fun q => hsh (Or.inl q))
    have h6 : I 116 (120 * s + a) ≠ 0 := fun q => hsh (Or.inr q)
    clear hsh
    refine ⟨.inl a, .inl 2, ?_⟩
    have z : (fun j => P j ∨ Es I s d k j) = P := funext (fun j => propext ⟨fun q => q.elim id (fun q => absurd q (hE j)), Or.inl⟩)
    have z2 : (g ∨ ∃ b, Es I s d k b ∧ ¬P b) = g := propext ⟨fun q => q.elim id (fun ⟨b, q, _⟩ => absurd q (hE b)), Or.inl⟩
    rw [z, z2, b226_24 L (by omega)]
    simp only [rowU, Nat.reduceEqDiff, ↓reduceIte]
    by_cases hz : I 96 a ≤ 2
    · rw [if_pos hz, b226_52 (by omega)]
    · rw [if_neg hz, b226_30, if_neg (fun q => q hd), b226_32 L (by omega) (by omega) (by omega)]
      simp only [rowU, Nat.reduceEqDiff, ↓reduceIte]
      rw [if_pos h6, b226_52 (by omega)]
