/-! ===== the class (39): the courier: steps to parents ===== -/
theorem pv_v {J : Nat → Int → Int} (W : WB J) {x : Int} (hx : Vs J x) : paO J x = J 96 x - 2 ∧ 2 ≤ J 96 x ∧ J 96 x ≤ 4 ∧ ∀ k, 0 ≤ k → k < J 96 x - 2 → lkO J x (k + 1) = atR J x (k + 2) := by
  have w := (W.2 _ hx.1.1 hx.1.2).1
  have en : nL J x = J 96 x - 1 := by
    unfold nL
    rw [if_neg (by have := hx.2; omega), if_pos hx.2]
  have h2 := hx.2
  refine ⟨?_, by omega, by omega, fun k k0 k1 => ?_⟩
  · unfold paO nlO
    rw [kdO_t hx.1, if_pos hx.2, if_pos hx.1, en]
    omega
  · unfold lkO lkR lkP
    rw [if_pos ⟨hx.1, by omega, by omega⟩, if_neg (by omega), if_pos hx.2, if_neg (by omega), show k + 1 + 1 = k + 2 by omega]
theorem k26 {h : HP} {I J : Nat → Int → Int} {n : Nat} {s x : Int} {f : Int → Int} {v3 v4 v5 : MV} (L0 : LX 0 h 2) (L2 : LX 2 h 83) (L4 : LX 4 h n) (hn : n + 4 < 83) (B : BC I J) (R : RB J) (V : WV J) (hC : ShC I J n s) (hx : Vs J x) (hf : ∀ j, 0 ≤ j → j < J 94 0 → 0 ≤ f j ∧ f j ≤ 100) :
    ∃ g, Go 26 0 [.inr (.inl (some 83)), .inr (.inl (some n)), .inl x, v3, v4, v5] [] (mI h (rowU I 85 f)) = some (mI h (rowU I 85 g), .inl none) ∧ (∀ j, g j ≤ f j ∧ (g j = f j ∨ (g j = f x + 1 ∧ Ep J s x j))) ∧ ∀ b, Ep J s x b → g b ≤ f x + 1 := by
  have hT := R.1.1
  have hx1 := hx.1
  have BU : ∀ g, BC (rowU I 85 g) J := fun g => by rw [BC_U (by omega)]; exact B
  have e3 : ∀ g, rowU I 85 g (n + 3) x = J 116 (120 * s + x) := fun g => by rw [rowU_ne (by omega)]; exact hC x hx1.1 hx1.2
  obtain ⟨p1, p2, p3, p4⟩ := pv_v R.1 hx
  rw [b26_0 L4 (by omega), e3]
  by_cases c : J 116 (120 * s + x) = 0
  · rw [if_pos c, b26_7 L2 L0, k9 L0 (BU _) R, caln_r, b26_11, p1]
    have key := lpE (fun k (z : (Int → Int) × MV) => Go 26 14 [.inr (.inl (some 83)), .inr (.inl (some n)), .inl x, .inl (J 96 x - 2), .inl k, z.2] [] (mI h (rowU I 85 z.1)))
      (fun k z => (∀ j, z.1 j ≤ f j ∧ (z.1 j = f j ∨ (z.1 j = f x + 1 ∧ Sb J x (k + 2) j))) ∧ z.1 x = f x ∧ ∀ b, Sb J x (k + 2) b → z.1 b ≤ f x + 1) 0 (J 96 x - 2) (by omega) ?_ (f, v5) ⟨fun j => ⟨Int.le_refl _, Or.inl rfl⟩, rfl, fun b ⟨j, h1, h2, _⟩ => by omega⟩
    · obtain ⟨⟨g, w⟩, e, q1, q2, q3⟩ := key
      dsimp only at e q1 q2 q3
      rw [show J 96 x - 2 + 2 = J 96 x by omega] at q1 q3
      refine ⟨g, by rw [e, b26_14, if_pos (Int.le_refl _), b26_51], fun j => ⟨(q1 j).1, (q1 j).2.imp id (fun r => ⟨r.1, c, r.2⟩)⟩, fun b hb => q3 b hb.2⟩
    · rintro k ⟨g, w⟩ k0 k1 ⟨q1, q2, q3⟩
      dsimp only at q1 q2 q3 ⊢
      have r := Vs_p R.1 V hx (j := k + 2) (by omega) (by omega)
      obtain ⟨y, hy⟩ : ∃ y, y = atR J x (k + 2) := ⟨_, rfl⟩
      rw [← hy] at r
      have ry := r.1.1
      have ek : k + 1 + 2 = k + 2 + 1 := by omega
      have hS := fun b => Sb_s (I := J) (a := x) (m := k + 2) (by omega) b
      have fx := hf x hx1.1 hx1.2
      have ex : rowU I 85 g 85 x = f x := by rw [rowU_eq, q2]
      have ey : rowU I 85 g 85 y = g y := by rw [rowU_eq]
      rw [b26_14, if_neg (by omega), b26_17 L2 (by omega) L0, k7 L0 (BU _) R, caln_r, p4 k k0 k1, ← hy, b26_24, if_neg (by omega), b26_28 L2 (by omega) (by rw [ex]; omega) (by omega), ex, ey]
      by_cases c2 : g y ≤ f x + 1
      · rw [if_pos c2, b26_49 (by omega)]
        refine ⟨(g, .inl y), rfl, fun j => ⟨(q1 j).1, (q1 j).2.imp id (fun t => ⟨t.1, by rw [ek]; exact (hS j).mpr (Or.inl t.2)⟩)⟩, q2, fun b hb => ?_⟩
        rw [ek] at hb
        obtain hb | hb := (hS b).mp hb
        · exact q3 b hb
        · rw [← hy] at hb
          subst hb
          exact c2
      · rw [if_neg c2, b26_39 L2 (by omega) (by rw [ex]; omega) (by omega), ex, b26_49 (by omega)]
        have nx : x ≠ y := by omega
        refine ⟨(up1 g y (f x + 1), .inl y), by dsimp only; rw [zu2_row, rowU_tw, rowU_eq], fun j => ?_, by dsimp only; rw [up1_ne nx, q2], fun b hb => ?_⟩
        · dsimp only
          by_cases q : j = y
          · subst q
            rw [up1_eq]
            exact ⟨by have := (q1 j).1; omega, Or.inr ⟨rfl, by rw [ek]; exact (hS j).mpr (Or.inr hy)⟩⟩
          · rw [up1_ne q]
            exact ⟨(q1 j).1, (q1 j).2.imp id (fun t => ⟨t.1, by rw [ek]; exact (hS j).mpr (Or.inl t.2)⟩)⟩
        · dsimp only
          by_cases q : b = y
          · subst q; rw [up1_eq]; exact Int.le_refl _
          · rw [up1_ne q]
            rw [ek] at hb
            obtain hb | hb := (hS b).mp hb
            · exact q3 b hb
            · exact absurd (hb.trans hy.symm) q
  · have no : ∀ b, ¬Ep J s x b := fun b q => c q.1
    rw [if_neg c, b26_5, b26_11, b26_14, if_pos (Int.le_refl _), b26_51]
    exact ⟨f, rfl, fun j => ⟨Int.le_refl _, Or.inl rfl⟩, fun b q => absurd q (no b)⟩
