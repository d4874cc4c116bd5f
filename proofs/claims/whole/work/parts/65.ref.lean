/-! ===== the reference's methods (16): seen parents, all; replace ===== -/
/-- rounds over all objects until a set has all that it leads to -/
theorem lpF {R X : Type} (E : Int → Int → Prop) (S : Int → Prop) (n : Int) (Hd : (Int → Prop) → X → R) (Bd : Int → (Int → Prop) → Prop → X → R) (Fin : R) (hn : 0 ≤ n) (hC : ∀ j, Cl E S j → 0 ≤ j ∧ j < n)
    (h1 : ∀ P x, ∃ x1, Hd P x = Bd 0 P False x1)
    (h2 : ∀ k P g x, 0 ≤ k → k < n → (∀ j, P j → Cl E S j) → P k → ∃ x1, Bd k P g x = Bd (k + 1) (fun j => P j ∨ E k j) (g ∨ ∃ b, E k b ∧ ¬P b) x1)
    (h3 : ∀ k P g x, 0 ≤ k → k < n → (∀ j, P j → Cl E S j) → ¬P k → ∃ x1, Bd k P g x = Bd (k + 1) P g x1)
    (h4 : ∀ P x, ∃ x1, Bd n P True x = Hd P x1)
    (h5 : ∀ x, Bd n (Cl E S) False x = Fin) (x0 : X) : Hd S x0 = Fin := by
  refine lpW (fun x : (Int → Prop) × X => Hd x.1 x.2) (fun x => Btw E S x.1) (fun r => r = Fin) (fun x => cnot x.1 n.toNat) ?_ (S, x0) ⟨fun _ q => q, fun _ q => Cl_base q⟩
  rintro ⟨P0, v⟩ ⟨hP1, hP2⟩
  dsimp only at hP1 hP2 ⊢
  obtain ⟨v1, e0⟩ := h1 P0 v
  have key := lpE (fun k (x : (Int → Prop) × Prop × X) => Bd k x.1 x.2.1 x.2.2)
    (fun k x => (∀ j, P0 j → x.1 j) ∧ (∀ j, x.1 j → Cl E S j) ∧ (x.2.1 → ∃ b, x.1 b ∧ ¬P0 b) ∧ (¬x.2.1 → (∀ j, x.1 j → P0 j) ∧ ∀ a, 0 ≤ a → a < k → P0 a → ∀ b, E a b → P0 b)) 0 n hn ?_ (P0, False, v1) ⟨fun _ q => q, hP2, fun q => q.elim, fun _ => ⟨fun _ q => q, fun a a0 a1 => by omega⟩⟩
  · obtain ⟨⟨P, g, v2⟩, e1, hp1, hp2, hg1, hg0⟩ := key
    dsimp only at e1 hp1 hp2 hg1 hg0
    rw [e0, e1]
    by_cases hg : g
    · right
      obtain ⟨b, hb1, hb2⟩ := hg1 hg
      have hbb := hC b (hp2 b hb1)
      obtain ⟨v3, e2⟩ := h4 P v2
      refine ⟨(P, v3), ?_, ⟨fun j q => hp1 j (hP1 j q), hp2⟩, ?_⟩
      · rw [eq_true hg]; exact e2
      · exact cnot_lt hp1 hbb.1 hb1 hb2 _ (by omega)
    · left
      obtain ⟨hq1, hq2⟩ := hg0 hg
      have hPC : P = Cl E S := funext (fun j => propext ⟨hp2 j, fun c => Cl_ind (P := P) c (fun a q => hp1 a (hP1 a q)) (fun a b ha e => by
        have := hC a (hp2 a ha)
        exact hp1 b (hq2 a this.1 this.2 (hq1 a ha) b e))⟩)
      rw [eq_false hg, hPC]
      exact h5 v2
  · rintro k ⟨P, g, v2⟩ hk0 hk1 ⟨hp1, hp2, hg1, hg0⟩
    dsimp only at hp1 hp2 hg1 hg0 ⊢
    by_cases hpk : P k
    · obtain ⟨v3, e2⟩ := h2 k P g v2 hk0 hk1 hp2 hpk
      refine ⟨(fun j => P j ∨ E k j, g ∨ ∃ b, E k b ∧ ¬P b, v3), e2, fun j q => Or.inl (hp1 j q), ?_, ?_, ?_⟩
      · rintro j (q | q)
        · exact hp2 j q
        · exact Cl_step (hp2 k hpk) q
      · rintro (q | ⟨b, q1, q2⟩)
        · obtain ⟨b, q1, q2⟩ := hg1 q
          exact ⟨b, Or.inl q1, q2⟩
        · exact ⟨b, Or.inr q1, fun q => q2 (hp1 b q)⟩
      · intro hn
        obtain ⟨n1, n2⟩ := hg0 (fun q => hn (Or.inl q))
        have n3 : ∀ b, E k b → P b := fun b e => Classical.byContradiction (fun q => hn (Or.inr ⟨b, e, q⟩))
        refine ⟨fun j q => q.elim (n1 j) (fun e => n1 j (n3 j e)), fun a a0 a1 pa b e => ?_⟩
        by_cases hak : a = k
        · subst hak; exact n1 b (n3 b e)
        · exact n2 a a0 (by omega) pa b e
    · obtain ⟨v3, e2⟩ := h3 k P g v2 hk0 hk1 hp2 hpk
      refine ⟨(P, g, v3), e2, hp1, hp2, hg1, fun hn => ⟨(hg0 hn).1, fun a a0 a1 pa b e => ?_⟩⟩
      by_cases hak : a = k
      · subst hak; exact absurd (hp1 _ pa) hpk
      · exact (hg0 hn).2 a a0 (by omega) pa b e
theorem r226 {h : HP} {I : Nat → Int → Int} {S : Int → Prop} {s d : Int} {v3 v4 v5 v6 : MV} (L : LX 11 h 94) (W : WB I) (N : WN I) (V : WV I) (hs : s = 0 ∨ s = 1) (hS : ∀ j, S j → Vs I j) :
    Go 226 0 [.inr (.inl (some 94)), .inl s, .inl d, v3, v4, v5, v6] [] (mI h (rowU I 133 (ind S))) = some (mI h (rowU I 133 (ind (Cl (Es I s d) S))), .inl none) := by
  have ht := WB_t W
  have hC : ∀ j, Cl (Es I s d) S j → Vs I j := fun j c => Cl_ind c hS (fun a b ha e => Es_v W N V hs ha e)
  rw [b226_0]
  refine lpF (X := MV × MV × MV) (Es I s d) S (I 94 0) (fun P x => Go 226 2 [.inr (.inl (some 94)), .inl s, .inl d, .inl 1, x.1, x.2.1, x.2.2] [] (mI h (rowU I 133 (ind P)))) (fun k P g x => Go 226 8 [.inr (.inl (some 94)), .inl s, .inl d, .inl (b01 g), .inl k, x.2.1, x.2.2] [] (mI h (rowU I 133 (ind P)))) _ ht.1 (fun j c => (hC j c).1) ?_ ?_ ?_ ?_ ?_ (v4, v5, v6)
  · rintro P ⟨x1, x2, x3⟩
    refine ⟨(x1, x2, x3), ?_⟩
    dsimp only
    rw [b01_f (fun q => q), b226_2, if_neg neg1_ne, b226_4]
  · rintro k P g ⟨x1, x2, x3⟩ h0 h1 hP hk
    obtain ⟨w5, w6, e⟩ := r226a (h := h) (I := I) (P := P) (g := g) (s := s) (d := d) (k := k) (v5 := x2) (v6 := x3) L W N V hs (hC k (hP k hk))
    refine ⟨(x1, w5, w6), ?_⟩
    dsimp only
    rw [← e, b226_8 L]
    simp only [rowU, Nat.reduceEqDiff, ↓reduceIte]
    rw [if_neg (by omega), b226_12 L (by omega)]
    simp only [rowU, Nat.reduceEqDiff, ↓reduceIte, ind, b01_t hk]
    rw [if_neg neg1_ne]
  · rintro k P g ⟨x1, x2, x3⟩ h0 h1 hP hk
    refine ⟨(x1, x2, x3), ?_⟩
    dsimp only
    rw [b226_8 L]
    simp only [rowU, Nat.reduceEqDiff, ↓reduceIte]
    rw [if_neg (by omega), b226_12 L (by omega)]
    simp only [rowU, Nat.reduceEqDiff, ↓reduceIte, ind, b01_f hk]
    rw [b226_52 (by omega)]
  · rintro P ⟨x1, x2, x3⟩
    refine ⟨(.inl (I 94 0), x2, x3), ?_⟩
    dsimp only
    rw [b01_t trivial, b226_8 L]
    simp only [rowU, Nat.reduceEqDiff, ↓reduceIte]
    rw [if_pos (Int.le_refl _), b226_54]
  · rintro ⟨x1, x2, x3⟩
    dsimp only
    rw [b01_f (fun q => q), b226_8 L]
    simp only [rowU, Nat.reduceEqDiff, ↓reduceIte]
    rw [if_pos (Int.le_refl _), b226_54, b226_2, if_pos rfl, b226_55]
theorem Es_U {I : Nat → Int → Int} {a : Nat} {f : Int → Int} (ha : 119 ≤ a) : Es (rowU I a f) = Es I := by
  funext s d x y
  unfold Es Sb
  rw [sa_U ha, atR_U (by omega), rowU_ne (by omega), rowU_ne (by omega)]
theorem rowU_ind {I : Nat → Int → Int} {P Q : Int → Prop} (h : ∀ j, P j ↔ Q j) : rowU I 133 (ind P) = rowU I 133 (ind Q) := by rw [ind_c h]
/-- whether a version would come from itself -/
def Tu (I : Nat → Int → Int) (s v y : Int) : Prop := Cl (Es I s 1) (Sb I y (I 96 y)) v
theorem r227 {h : HP} {I : Nat → Int → Int} {s x y : Int} {v4 : MV} (L : LX 11 h 94) (W : WB I) (N : WN I) (V : WV I) (Z : Z133 I) (hs : s = 0 ∨ s = 1) (hx : 0 ≤ x ∧ x < 120) (hy : Vs I y) :
    Go 227 0 [.inr (.inl (some 94)), .inl s, .inl x, .inl y, v4] [] (mI h I) = some (mI h (rowU I 133 (ind (Cl (Es I s 1) (Sb I y (I 96 y))))), .inl (some (.inl (b01 (Tu I s x y))))) := by
  have ht := WB_t W
  have hyl := hy.1
  have hw := (W.2 _ hyl.1 hyl.2).1.2.2.2.2.2.1 hy.2
  rw [b227_0 L, r172 L Z, caln_v, b227_2]
  have key := lpU (fun k => Go 227 4 [.inr (.inl (some 94)), .inl s, .inl x, .inl y, .inl k] [] (mI h (rowU I 133 (ind (Sb I y k))))) 2 (I 96 y) hw.1 ?_
  · rw [ind_c (Q := fun _ => False) (fun j => ⟨fun ⟨j, a, b, _⟩ => by omega, False.elim⟩)] at key
    rw [key, b227_4 L (by omega)]
    simp only [rowU, Nat.reduceEqDiff, ↓reduceIte]
    rw [if_pos (Int.le_refl _), b227_20 L, r226 L W N V hs (fun j ⟨i, a, b, c⟩ => c ▸ (Vs_p W V hy a b).1), caln_v, b227_24 L hx (by rw [rowU_eq]; exact b01_or _), rowU_eq]
    rfl
  · intro k h0 h1
    have hp := (Vs_p W V hy h0 h1).1.1
    rw [b227_4 L (by omega)]
    simp only [rowU, Nat.reduceEqDiff, ↓reduceIte]
    rw [if_neg (by omega), b227_10 L, r169 L (by simp only [rowU, Nat.reduceEqDiff, ↓reduceIte]; exact ht) (by omega) (by omega), atR_U (by decide), caln_r, b227_16 L (by omega) (by omega), zu2_row, rowU_tw, rowU_eq, up1_ind1]
    rw [rowU_ind (Q := Sb I y (k + 1)) (fun j => (Sb_s h0 j).symm)]
