/-! ===== the class (31): the walker: what comes ===== -/
/-- one round over all objects, from the last down -/
theorem k94a {h : HP} {I J : Nat → Int → Int} {n m : Nat} {s x r : Int} {P S : Int → Prop} {v6 : MV} (L0 : LX 0 h 2) (L9 : LX 9 h 76) (L4 : LX 4 h n) (Lm : hK h m = (1, 100)) (hm : 77 ≤ m) (hn : n + 4 < m) (B : BC I J) (R : RB J) (N : NC I J n s) (W8 : WN J) (V : WV J) (hs : s = 0 ∨ s = 1) (hP : ∀ j, P j → Vs J j ∧ Cl (Es J s 0) S j) :
    ∃ (g : Prop) (Q : Int → Prop) (w : Int), Go 94 25 [.inr (.inl (some 76)), .inr (.inl (some n)), .inl x, .inr (.inl (some m)), .inl 1, .inl r, v6] [] (mI h (rowU I m (ind P))) = Go 94 53 [.inr (.inl (some 76)), .inr (.inl (some n)), .inl x, .inr (.inl (some m)), .inl (b01 g), .inl r, .inl w] [] (mI h (rowU I m (ind Q))) ∧ (∀ j, P j → Q j) ∧ (∀ j, Q j → Vs J j ∧ Cl (Es J s 0) S j) ∧ (g → ∃ j, Q j ∧ ¬P j) ∧ (¬g → (∀ j, Q j → P j) ∧ ∀ a, P a → ∀ b, Es J s 0 a b → P b) := by
  have hT := R.1.1
  have e7 : ∀ f, rowU I m f 2 7 = J 94 0 := fun f => by rw [rowU_ne (by omega)]; exact B.1
  have key := lpE (fun i (z : Prop × (Int → Prop)) => Go 94 33 [.inr (.inl (some 76)), .inr (.inl (some n)), .inl x, .inr (.inl (some m)), .inl (b01 z.1), .inl r, .inl (J 94 0 - 1 - i)] [] (mI h (rowU I m (ind z.2))))
    (fun i z => (∀ j, P j → z.2 j) ∧ (∀ j, z.2 j → Vs J j ∧ Cl (Es J s 0) S j) ∧ (z.1 → ∃ j, z.2 j ∧ ¬P j) ∧ (¬z.1 → (∀ j, z.2 j → P j) ∧ ∀ a, J 94 0 - 1 - i < a → P a → ∀ b, Es J s 0 a b → P b)) 0 (J 94 0) hT.1 ?_ (False, P) ⟨fun _ q => q, hP, fun q => q.elim, fun _ => ⟨fun _ q => q, fun a h1 h2 => by have := (hP a h2).1.1; omega⟩⟩
  · obtain ⟨⟨g, Q⟩, e, q1, q2, q3, q4⟩ := key
    dsimp only at e q1 q2 q3 q4
    refine ⟨g, Q, -1, ?_, q1, q2, q3, fun ng => ⟨(q4 ng).1, fun a ha => (q4 ng).2 a (by have := (hP a ha).1.1; omega) ha⟩⟩
    rw [b01_f (p := False) id] at e
    rw [b94_25 L9 L0 (by rw [e7]; omega), e7, show J 94 0 - 1 = J 94 0 - 1 - 0 by omega, e, show J 94 0 - 1 - J 94 0 = -1 by omega, b94_33, if_pos (by decide)]
  · rintro i ⟨g, Q⟩ i0 i1 ⟨q1, q2, q3, q4⟩
    dsimp only at q1 q2 q3 q4 ⊢
    obtain ⟨a, ha⟩ : ∃ a, a = J 94 0 - 1 - i := ⟨_, rfl⟩
    have ea : J 94 0 - 1 - (i + 1) = a + -1 := by omega
    have em : rowU I m (ind Q) m a = b01 (Q a) := by rw [rowU_eq]; rfl
    rw [ea, ← ha, b94_33, if_neg (by omega), b94_35 Lm (by omega), em]
    by_cases qa : Q a
    · have va := q2 a qa
      rw [b01_t qa, if_neg neg1_ne, b94_39 L9, k95 L0 L9 L4 Lm hm hn B R N W8 V hs va.1, caln_r, b94_44]
      by_cases new : ∃ b, Es J s 0 a b ∧ ¬Q b
      · refine ⟨(True, fun j => Q j ∨ Es J s 0 a j), ?_, fun j p => Or.inl (q1 j p), fun j p => ?_, fun _ => ?_, fun ng => absurd trivial ng⟩
        · dsimp only
          rw [b01_t new, if_pos neg1_ne, b94_47, b94_50 (by omega), b01_t trivial]
        · obtain p | p := p
          · exact q2 j p
          · exact ⟨Es_v R.1 W8 V hs va.1 p, Cl_step va.2 p⟩
        · obtain ⟨b, b1, b2⟩ := new
          exact ⟨b, Or.inr b1, fun p => b2 (q1 b p)⟩
      · have eQ : ind (fun j => Q j ∨ Es J s 0 a j) = ind Q := ind_c (fun j => ⟨fun p => p.elim id (fun p => Classical.byContradiction fun nq => new ⟨j, p, nq⟩), Or.inl⟩)
        refine ⟨(g, Q), ?_, q1, q2, q3, fun ng => ⟨(q4 ng).1, fun c h1 h2 b hb => ?_⟩⟩
        · dsimp only
          rw [b01_f new, if_neg (fun t => t rfl), b94_45, eQ]
          by_cases gg : g
          · rw [b01_t gg, if_neg neg1_ne, b94_47, b94_50 (by omega)]
          · rw [b01_f gg, if_pos rfl, b94_49, b94_50 (by omega)]
        · by_cases hc : c = a
          · subst hc
            exact (q4 ng).1 b (Classical.byContradiction fun nq => new ⟨b, hb, nq⟩)
          · exact (q4 ng).2 c (by omega) h2 b hb
    · refine ⟨(g, Q), ?_, q1, q2, q3, fun ng => ⟨(q4 ng).1, fun c h1 h2 b hb => ?_⟩⟩
      · dsimp only
        rw [b01_f qa, if_pos rfl, b94_45]
        by_cases gg : g
        · rw [b01_t gg, if_neg neg1_ne, b94_47, b94_50 (by omega)]
        · rw [b01_f gg, if_pos rfl, b94_49, b94_50 (by omega)]
      · by_cases hc : c = a
        · subst hc
          exact absurd (q1 c h2) qa
        · exact (q4 ng).2 c (by omega) h2 b hb
/-- all that comes from a version, or nothing at all -/
theorem k94 {h : HP} {I J : Nat → Int → Int} {n m : Nat} {s x : Int} {v4 v5 v6 : MV} (L0 : LX 0 h 2) (L9 : LX 9 h 76) (L4 : LX 4 h n) (Lm : hK h m = (1, 100)) (hm : 77 ≤ m) (hn : n + 4 < m) (B : BC I J) (R : RB J) (N : NC I J n s) (W8 : WN J) (V : WV J) (hs : s = 0 ∨ s = 1) (hx : x = -1 ∨ Vs J x) (h0 : ∀ j, j < 0 ∨ 100 ≤ j → I m j = 0) :
    Go 94 0 [.inr (.inl (some 76)), .inr (.inl (some n)), .inl x, .inr (.inl (some m)), v4, v5, v6] [] (mI h I) = some (mI h (rowU I m (ind (Cl (Es J s 0) (fun i => 0 ≤ i ∧ i = x)))), .inl none) := by
  have hT := R.1.1
  obtain ⟨S, hS⟩ : ∃ S : Int → Prop, S = fun i => 0 ≤ i ∧ i = x := ⟨_, rfl⟩
  have SV : ∀ j, S j → Vs J j := fun j q => by
    rw [hS] at q
    obtain e | e := hx
    · have := q.1; have := q.2; omega
    · rw [q.2]; exact e
  have outer : ∀ (k : Nat) (r : Int) (P : Int → Prop) (v6 : MV) (I : Nat → Int → Int), BC I J → NC I J n s → 101 - r ≤ k → 0 ≤ r → r ≤ cN P 100 → (∀ j, S j → P j) → (∀ j, P j → Vs J j ∧ Cl (Es J s 0) S j) → Go 94 20 [.inr (.inl (some 76)), .inr (.inl (some n)), .inl x, .inr (.inl (some m)), .inl 1, .inl r, v6] [] (mI h (rowU I m (ind P))) = some (mI h (rowU I m (ind (Cl (Es J s 0) S))), .inl none) := by
    intro k
    induction k with
    | zero =>
      intro r P v6 I B N h1 h2 h3
      have := cN_b (P := P) 100
      omega
    | succ k ih =>
      intro r P v6 I B N h1 h2 h3 h4 h5
      have hb := cN_b (P := P) 100
      obtain ⟨g, Q, w, e, q1, q2, q3, q4⟩ := k94a (x := x) (r := r) (P := P) (S := S) (v6 := v6) L0 L9 L4 Lm hm hn B R N W8 V hs h5
      rw [b94_20, if_neg (by omega), b94_23, if_neg neg1_ne, e, b94_53 (by omega)]
      by_cases gg : g
      · obtain ⟨j, j1, j2⟩ := q3 gg
        have jr := (q2 j j1).1.1
        have lt := cN_lt (P := P) (Q := Q) (b := j) jr.1 j1 j2 100 (by omega) (fun k _ _ p => q1 k p)
        rw [b01_t gg]
        exact ih (r + 1) Q (.inl w) I B N (by omega) (by omega) (by omega) (fun j p => q1 j (h4 j p)) q2
      · obtain ⟨p1, p2⟩ := q4 gg
        have eq : ind Q = ind (Cl (Es J s 0) S) := ind_c (fun j => ⟨fun p => (q2 j p).2, fun c => Cl_ind (P := Q) c (fun i p => q1 i (h4 i p)) (fun a b pa eb => q1 b (p2 a (p1 a pa) b eb))⟩)
        rw [b01_f gg, eq, b94_20]
        by_cases q : 100 < r + 1
        · rw [if_pos q, b94_55]
        · rw [if_neg q, b94_23, if_pos rfl, b94_55]
  have key := lpE (fun k (f : Int → Int) => Go 94 2 [.inr (.inl (some 76)), .inr (.inl (some n)), .inl x, .inr (.inl (some m)), .inl k, v5, v6] [] (mI h (rowU I m f))) (fun k f => (∀ j, 0 ≤ j → j < k → f j = b01 (S j)) ∧ ∀ j, j < 0 ∨ 100 ≤ j → f j = 0) 0 100 (by decide) ?_ (I m) ⟨fun j _ _ => by omega, h0⟩
  · obtain ⟨f, e, hf, hf0⟩ := key
    rw [rowU_id] at e
    have ef : f = ind S := funext fun j => by
      by_cases q : 0 ≤ j ∧ j < 100
      · exact hf j q.1 q.2
      · rw [hf0 j (by omega)]
        exact (b01_f (p := S j) (fun t => by have := (SV j t).1; omega)).symm
    have em : ∀ g, rowU (rowU I m f) m g = rowU I m g := fun g => rowU_tw
    rw [b94_0, e, b94_2, if_pos (by decide), b94_16, ef, ← hS]
    exact outer 101 0 S v6 I B N (by omega) (Int.le_refl _) (cN_b _).1 (fun _ q => q) (fun j q => ⟨SV j q, Cl_base q⟩)
  · intro k f k0 k1 ⟨hf, hf0⟩
    refine ⟨up1 f k (b01 (S k)), ?_, fun j j0 j1 => ?_, fun j hj => by rw [up1_ne (by omega)]; exact hf0 j hj⟩
    · rw [b94_2, if_neg (by omega), b94_5]
      by_cases q : k = x
      · have sk : S k := by rw [hS]; exact ⟨k0, q⟩
        rw [if_neg (fun t => t q), b94_10, b94_13 Lm (by omega) (Or.inr rfl) (by omega), zu2_row, rowU_tw, rowU_eq, b01_t sk]
      · have sk : ¬S k := by rw [hS]; exact fun t => q t.2
        rw [if_pos q, b94_12, b94_13 Lm (by omega) (Or.inl rfl) (by omega), zu2_row, rowU_tw, rowU_eq, b01_f sk]
    · by_cases q : j = k
      · subst q; rw [up1_eq]
      · rw [up1_ne q]; exact hf j j0 (by omega)
