/-! ===== the class (34): the walker: generations ===== -/
theorem k96b {h : HP} {I J : Nat → Int → Int} {n : Nat} {s d : Int} {U : Int → Int} (L0 : LX 0 h 2) (L9 : LX 9 h 76) (L4 : LX 4 h n) (hn : n + 4 < 77) (B : BC I J) (R : RB J) (N : NC I J n s) (W8 : WN J) (V : WV J) (V8 : ∀ o, 0 ≤ o → o < J 94 0 → J 95 o ≠ 2 → J 118 (120 * s + o) = 0) (hs : s = 0 ∨ s = 1) (hd : d = 0 ∨ d = 1) :
    ∀ (k : Nat) (r : Int) (f : Int → Int) (v4 v5 : MV), 101 - r ≤ k → 0 ≤ r → r ≤ 101 → RI_ J s d U r 0 (200 * r + 1) f → (r = 0 ∨ ∃ k, Vs J k ∧ r + 1 ≤ f k) →
    ∃ (z : Int) (f' : Int → Int), Go 96 6 [.inr (.inl (some 76)), .inr (.inl (some n)), .inl (1 - d), .inl r, v4, v5] [] (mI h (rowU I 77 f)) = some (mI h (rowU I 77 f'), .inl (some (.inl z))) ∧
      ((z = 1 ∧ (∀ k b, Vs J k → Es J s d k b → f' b + 1 ≤ f' k) ∧ (∀ k, Vs J k → f' k = 1 ∨ ∃ b, Es J s d k b ∧ f' k ≤ f' b + 1) ∧ ∀ j, 0 ≤ j → j < J 94 0 → 1 ≤ f' j ∧ f' j ≤ 30000) ∨ (z = 0 ∧ ((∀ k b, Vs J k → Es J s d k b → U b + 1 ≤ U k) → ∃ k, Vs J k ∧ 102 ≤ U k))) := by
  intro k
  induction k with
  | zero =>
    intro r f v4 v5 h1 h2 h3 H hk
    have hr : r = 101 := by omega
    subst hr
    refine ⟨0, f, by rw [b96_6, if_pos (by decide), b96_38], Or.inr ⟨rfl, fun hU => ?_⟩⟩
    obtain ⟨q, q1, q2⟩ := hk.resolve_left (by omega)
    exact ⟨q, q1, by have := H.2.2.2 hU q q1; omega⟩
  | succ k ih =>
    intro r f v4 v5 h1 h2 h3 H hk
    by_cases hr : r = 101
    · subst hr
      refine ⟨0, f, by rw [b96_6, if_pos (by decide), b96_38], Or.inr ⟨rfl, fun hU => ?_⟩⟩
      obtain ⟨q, q1, q2⟩ := hk.resolve_left (by omega)
      exact ⟨q, q1, by have := H.2.2.2 hU q q1; omega⟩
    · obtain ⟨g, f1, e, H1, q2, q3⟩ := k96a (h := h) (U := U) L0 L9 L4 hn B R N W8 V V8 hs hd (by omega) H
      rw [b96_6, if_neg (by omega), b96_9, e, b96_32]
      by_cases gg : g
      · refine ⟨1, f1, by rw [b01_t gg, if_neg neg1_ne, b96_34], Or.inl ⟨rfl, q2 gg, H1.2.2.1, fun j j0 j1 => by have := H1.1 j j0 j1; omega⟩⟩
      · rw [b01_f gg, if_pos rfl, b96_36 (by omega)]
        refine ih (r + 1) f1 _ _ (by omega) (by omega) (by omega) ⟨fun j j0 j1 => by have := H1.1 j j0 j1; omega, fun a b a1 a2 => ?_, H1.2.2.1, H1.2.2.2⟩ (Or.inr ?_)
        · refine (H1.2.1 a b a1 a2).imp id (fun q => ?_)
          have := a1.1
          rw [if_pos (by omega)] at q
          rw [if_neg (by omega)]
          omega
        · obtain ⟨a, a1, a2⟩ := q3 gg
          exact ⟨a, a1, by omega⟩
theorem k96 {h : HP} {I J : Nat → Int → Int} {n : Nat} {s d : Int} {U : Int → Int} {v3 v4 v5 : MV} (L0 : LX 0 h 2) (L9 : LX 9 h 76) (L4 : LX 4 h n) (hn : n + 4 < 77) (B : BC I J) (R : RB J) (N : NC I J n s) (W8 : WN J) (V : WV J) (V8 : ∀ o, 0 ≤ o → o < J 94 0 → J 95 o ≠ 2 → J 118 (120 * s + o) = 0) (hs : s = 0 ∨ s = 1) (hd : d = 0 ∨ d = 1) (hU1 : ∀ k, Vs J k → 1 ≤ U k) :
    ∃ (z : Int) (f' : Int → Int), Go 96 0 [.inr (.inl (some 76)), .inr (.inl (some n)), .inl (1 - d), v3, v4, v5] [] (mI h I) = some (mI h (rowU I 77 f'), .inl (some (.inl z))) ∧
      ((z = 1 ∧ (∀ k b, Vs J k → Es J s d k b → f' b + 1 ≤ f' k) ∧ (∀ k, Vs J k → f' k = 1 ∨ ∃ b, Es J s d k b ∧ f' k ≤ f' b + 1) ∧ ∀ j, 0 ≤ j → j < J 94 0 → 1 ≤ f' j ∧ f' j ≤ 30000) ∨ (z = 0 ∧ ((∀ k b, Vs J k → Es J s d k b → U b + 1 ≤ U k) → ∃ k, Vs J k ∧ 102 ≤ U k))) := by
  have hT := R.1.1
  have l77 : hK h 77 = (0, 100) := LX_k L9 1 false 1 0 100 rfl
  have one : ∀ j, 0 ≤ j → j < 100 → fillR (I 77) 0 100 (fun _ => 1) j = 1 := fun j j0 j1 => fillR_in ⟨j0, j1⟩
  have edge : ∀ k b, Vs J k → Es J s d k b → (if k < 0 then (0 : Int) + 2 ≤ fillR (I 77) 0 100 (fun _ => 1) b else 0 + 1 ≤ fillR (I 77) 0 100 (fun _ => 1) b) := fun k b k1 k2 => by
    have vb := (Es_v R.1 W8 V hs k1 k2).1
    have := k1.1.1
    rw [if_neg (by omega), one b vb.1 (by omega)]
    omega
  obtain ⟨z, f', e, q⟩ := k96b (h := h) (U := U) L0 L9 L4 hn B R N W8 V V8 hs hd 101 0 (fillR (I 77) 0 100 (fun _ => 1)) v4 v5 (by omega) (Int.le_refl _) (by decide) ⟨fun j j0 j1 => by rw [one j j0 (by omega)]; omega, fun k b k1 k2 => Or.inr (edge k b k1 k2), fun k k1 => Or.inl (one k k1.1.1 (by have := k1.1.2; omega)), fun _ k k1 => by rw [one k k1.1.1 (by have := k1.1.2; omega)]; exact hU1 k k1⟩ (Or.inl rfl)
  refine ⟨z, f', ?_, q⟩
  rw [b96_0 L9, k274 l77 (by decide), caln_v, b96_4, e]
/-- how much comes from a version: a bound of its generation -/
noncomputable def cU (J : Nat → Int → Int) (s d k : Int) : Int := cN (Cl (Es J s d) (fun j => j = k)) 100
theorem cU_b {J : Nat → Int → Int} (W : WB J) {s d k : Int} (hk : Vs J k) : 1 ≤ cU J s d k ∧ cU J s d k ≤ 100 := by
  have hk1 := hk.1
  have hT := W.1
  have b := cN_b (P := Cl (Es J s d) (fun j => j = k)) 100
  have a := cN_1 (P := Cl (Es J s d) (fun j => j = k)) (b := k) (n := 100) hk.1.1 (Cl_base rfl) (by omega)
  unfold cU
  omega
theorem cU_s {J : Nat → Int → Int} (W : WB J) (N8 : WN J) (V : WV J) {s d : Int} (hs : s = 0 ∨ s = 1) (A : ∀ k b, Vs J k → Es J s d k b → ¬Cl (Es J s d) (fun j => j = b) k) {k b : Int} (hk : Vs J k) (e : Es J s d k b) : cU J s d b + 1 ≤ cU J s d k := by
  have hT := W.1
  have hk1 := hk.1
  have := cN_lt (P := Cl (Es J s d) (fun j => j = b)) (Q := Cl (Es J s d) (fun j => j = k)) (b := k) hk.1.1 (Cl_base rfl) (A k b hk e) 100 (by omega) (fun i _ _ c => Cl_ind (P := Cl (Es J s d) (fun j => j = k)) c (fun a q => by rw [q]; exact Cl_step (Cl_base rfl) e) (fun a c pa ec => Cl_step pa ec))
  unfold cU
  omega
/-- without a way round, the generations settle -/
theorem k96t {h : HP} {I J : Nat → Int → Int} {n : Nat} {s d : Int} {v3 v4 v5 : MV} (L0 : LX 0 h 2) (L9 : LX 9 h 76) (L4 : LX 4 h n) (hn : n + 4 < 77) (B : BC I J) (R : RB J) (N : NC I J n s) (W8 : WN J) (V : WV J) (V8 : ∀ o, 0 ≤ o → o < J 94 0 → J 95 o ≠ 2 → J 118 (120 * s + o) = 0) (hs : s = 0 ∨ s = 1) (hd : d = 0 ∨ d = 1) (A : ∀ k b, Vs J k → Es J s d k b → ¬Cl (Es J s d) (fun j => j = b) k) :
    ∃ f', Go 96 0 [.inr (.inl (some 76)), .inr (.inl (some n)), .inl (1 - d), v3, v4, v5] [] (mI h I) = some (mI h (rowU I 77 f'), .inl (some (.inl 1))) ∧ Gn (Es J s d) (Vs J) f' ∧ ∀ j, 0 ≤ j → j < J 94 0 → 1 ≤ f' j ∧ f' j ≤ 30000 := by
  obtain ⟨z, f', e, q⟩ := k96 (h := h) (U := cU J s d) (v3 := v3) (v4 := v4) (v5 := v5) L0 L9 L4 hn B R N W8 V V8 hs hd (fun k hk => (cU_b R.1 hk).1)
  obtain ⟨z1, s1, s2, s3⟩ | ⟨z0, q⟩ := q
  · subst z1
    refine ⟨f', e, fun k hk => ⟨(s3 k hk.1.1 hk.1.2).1, fun b eb => s1 k b hk eb, ?_⟩, s3⟩
    refine (s2 k hk).imp id (fun ⟨b, r1, r2⟩ => ⟨b, r1, ?_⟩)
    have := s1 k b hk r1
    omega
  · obtain ⟨k, k1, k2⟩ := q (fun k b hk eb => cU_s R.1 W8 V hs A hk eb)
    have := (cU_b (s := s) (d := d) R.1 k1).2
    omega
/-- with a way round, they never do -/
theorem k96f {h : HP} {I J : Nat → Int → Int} {n : Nat} {s d : Int} {v3 v4 v5 : MV} (L0 : LX 0 h 2) (L9 : LX 9 h 76) (L4 : LX 4 h n) (hn : n + 4 < 77) (B : BC I J) (R : RB J) (N : NC I J n s) (W8 : WN J) (V : WV J) (V8 : ∀ o, 0 ≤ o → o < J 94 0 → J 95 o ≠ 2 → J 118 (120 * s + o) = 0) (hs : s = 0 ∨ s = 1) (hd : d = 0 ∨ d = 1) (A : ∃ k b, Vs J k ∧ Es J s d k b ∧ Cl (Es J s d) (fun j => j = b) k) :
    ∃ f', Go 96 0 [.inr (.inl (some 76)), .inr (.inl (some n)), .inl (1 - d), v3, v4, v5] [] (mI h I) = some (mI h (rowU I 77 f'), .inl (some (.inl 0))) := by
  obtain ⟨z, f', e, q⟩ := k96 (h := h) (U := cU J s d) (v3 := v3) (v4 := v4) (v5 := v5) L0 L9 L4 hn B R N W8 V V8 hs hd (fun k hk => (cU_b R.1 hk).1)
  obtain ⟨z1, s1, s2, s3⟩ | ⟨z0, q⟩ := q
  · obtain ⟨k, b, hk, eb, c⟩ := A
    have vb := Es_v R.1 W8 V hs hk eb
    have low : Vs J k ∧ f' k ≤ f' b := Cl_ind (P := fun j => Vs J j ∧ f' j ≤ f' b) c (fun a qa => by rw [qa]; exact ⟨vb, Int.le_refl _⟩) (fun a c pa ec => ⟨Es_v R.1 W8 V hs pa.1 ec, by have := s1 a c pa.1 ec; have := pa.2; omega⟩)
    have := s1 k b hk eb
    omega
  · subst z0
    exact ⟨f', e⟩
