/-! ===== the class (33): the walker: a round of raising ===== -/
def RI_ (J : Nat → Int → Int) (s d : Int) (U : Int → Int) (r i M : Int) (f : Int → Int) : Prop :=
  (∀ j, 0 ≤ j → j < J 94 0 → 1 ≤ f j ∧ f j ≤ M) ∧
  (∀ k b, Vs J k → Es J s d k b → f b + 1 ≤ f k ∨ (if k < i then r + 2 ≤ f b else r + 1 ≤ f b)) ∧
  (∀ k, Vs J k → f k = 1 ∨ ∃ b, Es J s d k b ∧ f k ≤ f b + 1) ∧
  ((∀ k b, Vs J k → Es J s d k b → U b + 1 ≤ U k) → ∀ k, Vs J k → f k ≤ U k)
theorem k96a {h : HP} {I J : Nat → Int → Int} {n : Nat} {s d r M : Int} {U f : Int → Int} (L0 : LX 0 h 2) (L9 : LX 9 h 76) (L4 : LX 4 h n) (hn : n + 4 < 77) (B : BC I J) (R : RB J) (N : NC I J n s) (W8 : WN J) (V : WV J) (V8 : ∀ o, 0 ≤ o → o < J 94 0 → J 95 o ≠ 2 → J 118 (120 * s + o) = 0) (hs : s = 0 ∨ s = 1) (hd : d = 0 ∨ d = 1) (hM : M ≤ 29000) (H : RI_ J s d U r 0 M f) :
    ∃ (g : Prop) (f' : Int → Int), Go 96 13 [.inr (.inl (some 76)), .inr (.inl (some n)), .inl (1 - d), .inl r, .inl 1, .inl 0] [] (mI h (rowU I 77 f)) = Go 96 32 [.inr (.inl (some 76)), .inr (.inl (some n)), .inl (1 - d), .inl r, .inl (b01 g), .inl (J 94 0)] [] (mI h (rowU I 77 f')) ∧ RI_ J s d U r (J 94 0) (M + 200) f' ∧ (g → ∀ k b, Vs J k → Es J s d k b → f' b + 1 ≤ f' k) ∧ (¬g → ∃ k, Vs J k ∧ r + 2 ≤ f' k) := by
  have hT := R.1.1
  have e7 : ∀ g, rowU I 77 g 2 7 = J 94 0 := fun g => by rw [rowU_ne (by omega)]; exact B.1
  have BU : ∀ g, BC (rowU I 77 g) J := fun g => by rw [BC_U (by omega)]; exact B
  have NU : ∀ g, NC (rowU I 77 g) J n s := fun g => by
    unfold NC
    rw [NO_I (I := I) (n := n) (fun c c0 c1 => rowU_ne (by omega))]
    exact N
  have key := lpE (fun i (z : Prop × (Int → Int)) => Go 96 13 [.inr (.inl (some 76)), .inr (.inl (some n)), .inl (1 - d), .inl r, .inl (b01 z.1), .inl i] [] (mI h (rowU I 77 z.2)))
    (fun i z => RI_ J s d U r i (M + 2 * i) z.2 ∧ (z.1 → ∀ k b, k < i → Vs J k → Es J s d k b → z.2 b + 1 ≤ z.2 k) ∧ (¬z.1 → ∃ k, Vs J k ∧ r + 2 ≤ z.2 k)) 0 (J 94 0) hT.1 ?_ (True, f) ⟨by dsimp only; rw [Int.mul_zero, Int.add_zero]; exact H, fun _ k b h0 h1 _ => by have := h1.1.1; omega, fun q => absurd trivial q⟩
  · obtain ⟨⟨g, f'⟩, e, q1, q2, q3⟩ := key
    dsimp only at e q1 q2 q3
    rw [b01_t (p := True) trivial] at e
    refine ⟨g, f', ?_, ⟨fun j j0 j1 => ?_, q1.2⟩, fun gg k b h1 h2 => q2 gg k b h1.1.2 h1 h2, q3⟩
    · rw [e, b96_13 L9 L0, e7, if_pos (Int.le_refl _)]
    · have := q1.1 j j0 j1
      omega
  · rintro i ⟨g, f⟩ i0 i1 ⟨⟨a1, a2, a3, a4⟩, q2, q3⟩
    dsimp only at a1 a2 a3 a4 q2 q3 ⊢
    by_cases hv : J 95 i = 2
    · have vi : Vs J i := ⟨⟨i0, i1⟩, hv⟩
      obtain ⟨v, e, v1, v2, v3, v4⟩ := k97 (h := h) (I := I) (J := J) (n := n) (s := s) (d := d) (x := i) (M := M + 2 * i) (f := f) (v4 := vU) (v5 := vU) (v6 := vU) (v7 := vU) L0 L9 L4 hn B R N W8 V hs hd vi (by omega) a1
      have step : Go 96 13 [.inr (.inl (some 76)), .inr (.inl (some n)), .inl (1 - d), .inl r, .inl (b01 g), .inl i] [] (mI h (rowU I 77 f)) = Go 96 13 [.inr (.inl (some 76)), .inr (.inl (some n)), .inl (1 - d), .inl r, .inl (b01 (g ∧ ¬f i < v)), .inl (i + 1)] [] (mI h (rowU I 77 (up1 f i v))) := by
        rw [b96_13 L9 L0, e7, if_neg (by omega), b96_18 L9, e, caln_r, b96_23]
        by_cases c : f i < v
        · rw [b01_t c, if_pos neg1_ne, b96_28, b96_29 (by omega), b01_f (fun t => t.2 c)]
        · rw [b01_f c, if_neg (fun t => t rfl), b96_24]
          by_cases gg : g
          · rw [b01_t gg, if_neg neg1_ne, b96_26, b96_29 (by omega), b01_t ⟨gg, c⟩]
          · rw [b01_f gg, if_pos rfl, b96_28, b96_29 (by omega), b01_f (fun t => gg t.1)]
      have up : ∀ b, f b ≤ up1 f i v b := fun b => by
        by_cases q : b = i
        · subst q; rw [up1_eq]; exact v1
        · rw [up1_ne q]; exact Int.le_refl _
      have upi : up1 f i v i = v := up1_eq
      have raised : f i < v → r + 2 ≤ v := fun c => by
        obtain q | ⟨b, b1, q⟩ := v4
        · omega
        · have a := a2 i b vi b1
          rw [if_neg (Int.lt_irrefl i)] at a
          obtain q | q := q
          · omega
          · subst q; omega
      refine ⟨(g ∧ ¬f i < v, up1 f i v), step, ⟨fun j j0 j1 => ?_, fun k b k1 k2 => ?_, fun k k1 => ?_, fun hU k k1 => ?_⟩, fun gg k b h0 h1 h2 => ?_, fun ng => ?_⟩
      · have a := a1 j j0 j1
        by_cases q : j = i
        · subst q; dsimp only; rw [up1_eq]; omega
        · dsimp only; rw [up1_ne q]; omega
      · dsimp only
        by_cases hk : k = i
        · subst hk
          rw [upi, if_pos (by omega)]
          by_cases hb : b = k
          · subst hb
            have := v3 b k2
            right
            rw [upi]
            exact raised (by omega)
          · left
            rw [up1_ne hb]
            exact v3 b k2
        · rw [up1_ne hk]
          have a := a2 k b k1 k2
          by_cases hb : b = i
          · subst hb
            rw [upi]
            by_cases c : f b < v
            · right
              have := raised c
              split <;> omega
            · have ev : v = f b := by omega
              rw [ev]
              refine a.imp id (fun q => ?_)
              by_cases c2 : k < b
              · rw [if_pos c2] at q
                rw [if_pos (by omega)]
                exact q
              · rw [if_neg c2] at q
                rw [if_neg (by omega)]
                exact q
          · rw [up1_ne hb]
            refine a.imp id (fun q => ?_)
            by_cases c2 : k < i
            · rw [if_pos c2] at q
              rw [if_pos (by omega)]
              exact q
            · rw [if_neg c2] at q
              rw [if_neg (by omega)]
              exact q
      · dsimp only
        by_cases hk : k = i
        · subst hk
          rw [upi]
          obtain q | ⟨b, b1, q⟩ := v4
          · rw [q]
            exact (a3 k k1).imp id (fun ⟨b, r1, r2⟩ => ⟨b, r1, by have := up b; rw [q] at this; omega⟩)
          · right
            refine ⟨b, b1, ?_⟩
            obtain q | q := q
            · have := up b; omega
            · subst q; rw [upi]; omega
        · rw [up1_ne hk]
          exact (a3 k k1).imp id (fun ⟨b, r1, r2⟩ => ⟨b, r1, by have := up b; omega⟩)
      · dsimp only
        by_cases hk : k = i
        · subst hk
          rw [upi]
          obtain q | ⟨b, b1, q⟩ := v4
          · rw [q]; exact a4 hU k k1
          · have hu := hU k b k1 b1
            obtain q | q := q
            · have vb := Es_v R.1 W8 V hs k1 b1
              have := a4 hU b vb
              omega
            · subst q; omega
        · rw [up1_ne hk]
          exact a4 hU k k1
      · dsimp only at gg ⊢
        have ev : v = f i := by have := gg.2; omega
        have eu : up1 f i v = f := up1_id ev.symm
        rw [eu]
        by_cases hk : k = i
        · subst hk
          have := v3 b h2
          omega
        · exact q2 gg.1 k b (by omega) h1 h2
      · dsimp only at ng ⊢
        by_cases c : f i < v
        · exact ⟨i, vi, by rw [upi]; exact raised c⟩
        · obtain ⟨k, k1, k2⟩ := q3 (fun gg => ng ⟨gg, c⟩)
          exact ⟨k, k1, by have := up k; omega⟩
    · have e := fun w4 w5 w6 w7 => k97n (h := h) (I := rowU I 77 f) (J := J) (n := n) (s := s) (d := d) (x := i) (v4 := w4) (v5 := w5) (v6 := w6) (v7 := w7) L0 L9 L4 (BU f) R (NU f) W8 hd ⟨i0, i1⟩ hv (V8 i i0 i1 hv)
      have nv : ∀ k, Vs J k → k ≠ i := fun k k1 q => hv (by rw [← q]; exact k1.2)
      refine ⟨(g, f), ?_, ⟨fun j j0 j1 => by have := a1 j j0 j1; dsimp only; omega, fun k b k1 k2 => ?_, a3, a4⟩, fun gg k b h0 h1 h2 => q2 gg k b (by have := nv k h1; omega) h1 h2, q3⟩
      · dsimp only
        rw [b96_13 L9 L0, e7, if_neg (by omega), b96_18 L9, e, caln_r, b96_23, if_neg (fun t => t rfl), b96_24]
        by_cases gg : g
        · rw [b01_t gg, if_neg neg1_ne, b96_26, b96_29 (by omega)]
        · rw [b01_f gg, if_pos rfl, b96_28, b96_29 (by omega)]
      · have := nv k k1
        refine (a2 k b k1 k2).imp id (fun q => ?_)
        by_cases c2 : k < i
        · rw [if_pos c2] at q
          rw [if_pos (by omega)]
          exact q
        · rw [if_neg c2] at q
          rw [if_neg (by omega)]
          exact q
