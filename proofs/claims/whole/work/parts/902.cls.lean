/-! ===== the class (32): the walker: a generation is raised ===== -/
theorem k97 {h : HP} {I J : Nat → Int → Int} {n : Nat} {s d x M : Int} {f : Int → Int} {v4 v5 v6 v7 : MV} (L0 : LX 0 h 2) (L9 : LX 9 h 76) (L4 : LX 4 h n) (hn : n + 4 < 77) (B : BC I J) (R : RB J) (N : NC I J n s) (W8 : WN J) (V : WV J) (hs : s = 0 ∨ s = 1) (hd : d = 0 ∨ d = 1) (hx : Vs J x) (hM : M ≤ 30000) (hf : ∀ j, 0 ≤ j → j < J 94 0 → 1 ≤ f j ∧ f j ≤ M) :
    ∃ v, Go 97 0 [.inr (.inl (some 76)), .inr (.inl (some n)), .inl x, .inl (1 - d), v4, v5, v6, v7] [] (mI h (rowU I 77 f)) = some (mI h (rowU I 77 (up1 f x v)), .inl (some (.inl (b01 (f x < v))))) ∧ f x ≤ v ∧ v ≤ M + 2 ∧ (∀ b, Es J s d x b → f b + 1 ≤ v) ∧ (v = f x ∨ ∃ b, Es J s d x b ∧ (v = f b + 1 ∨ b = x)) := by
  have hT := R.1.1
  have hx1 := hx.1
  have hfx := hf x hx1.1 hx1.2
  have BU : ∀ g, BC (rowU I 77 g) J := fun g => by rw [BC_U (by omega)]; exact B
  have NU : ∀ g, NC (rowU I 77 g) J n s := fun g => by
    unfold NC
    rw [NO_I (I := I) (n := n) (fun c c0 c1 => rowU_ne (by omega))]
    exact N
  obtain ⟨p1, p2, p3, p4⟩ := pn_v R.1 W8 V hs hx
  have v := sa_v W8 V hs hx.1 hx.2
  have h92 := fun g (v4 : MV) => k92 (I := rowU I 77 g) (d := d) (v4 := v4) L0 L9 L4 (BU g) R (NU g) W8 (x := x) (s := s) ⟨by omega, by omega⟩ hd
  rw [b97_0 L9, h92, caln_r, b97_7]
  unfold pnP
  by_cases c : d = 0 ∧ J 116 (120 * s + sa J s x) ≠ 0
  · have no : ∀ b, ¬Es J s d x b := fun b q => q.1.elim (fun t => t c.1) (fun t => c.2 t)
    refine ⟨f x, ?_, Int.le_refl _, by omega, fun b q => absurd q (no b), Or.inl rfl⟩
    rw [if_pos c, b97_10, if_pos (Int.le_refl _), b97_45 (Or.inl rfl), b01_f (by omega)]
    have eu : up1 f x (f x) = f := up1_id rfl
    rw [eu]
  · have ed : d ≠ 0 ∨ J 116 (120 * s + sa J s x) = 0 := by
      by_cases q : d = 0
      · exact Or.inr (Classical.byContradiction fun r => c ⟨q, r⟩)
      · exact Or.inl q
    rw [if_neg c, p1]
    have key := lpE (fun k (z : Int × MV) => Go 97 10 [.inr (.inl (some 76)), .inr (.inl (some n)), .inl x, .inl (1 - d), .inl (b01 (f x < z.1)), .inl (J 96 (sa J s x) - 2), .inl k, z.2] [] (mI h (rowU I 77 (up1 f x z.1))))
      (fun k z => f x ≤ z.1 ∧ z.1 ≤ M + k ∧ (∀ b, Sb J (sa J s x) (k + 2) b → f b + 1 ≤ z.1) ∧ (z.1 = f x ∨ ∃ b, Sb J (sa J s x) (k + 2) b ∧ (z.1 = f b + 1 ∨ b = x))) 0 (J 96 (sa J s x) - 2) (by omega) ?_ (f x, v7) ⟨Int.le_refl _, by dsimp only; omega, fun b ⟨j, h1, h2, _⟩ => by omega, Or.inl rfl⟩
    · obtain ⟨⟨z, w⟩, e, q1, q2, q3, q4⟩ := key
      dsimp only at e q1 q2 q3 q4
      have eu : up1 f x (f x) = f := up1_id rfl
      rw [b01_f (p := f x < f x) (by omega), eu] at e
      have e2 : J 96 (sa J s x) - 2 + 2 = J 96 (sa J s x) := by omega
      rw [e2] at q3 q4
      refine ⟨z, ?_, q1, by omega, fun b q => q3 b q.2, q4.imp id (fun ⟨b, r1, r2⟩ => ⟨b, ⟨ed, r1⟩, r2⟩)⟩
      rw [e, b97_10, if_pos (Int.le_refl _), b97_45 (b01_or _)]
    · rintro k ⟨z, w⟩ k0 k1 ⟨q1, q2, q3, q4⟩
      dsimp only at q1 q2 q3 q4 ⊢
      have r := (Vs_p R.1 V v (j := k + 2) (by omega) (by omega)).1.1
      obtain ⟨y, hy⟩ : ∃ y, y = atR J (sa J s x) (k + 2) := ⟨_, rfl⟩
      rw [← hy] at r
      have hfy := hf y r.1 r.2
      have ek : k + 1 + 2 = k + 2 + 1 := by omega
      have hS := fun b => Sb_s (I := J) (a := sa J s x) (m := k + 2) (by omega) b
      have ex : rowU I 77 (up1 f x z) 77 x = z := by rw [rowU_eq, up1_eq]
      obtain ⟨u, hu⟩ : ∃ u, u = up1 f x z y := ⟨_, rfl⟩
      have ey : rowU I 77 (up1 f x z) 77 y = u := by rw [rowU_eq, hu]
      have hub : f y ≤ u ∧ u ≤ M + k ∧ (y = x ∨ u = f y) := by
        by_cases q : y = x
        · subst q; rw [hu, up1_eq]; exact ⟨q1, q2, Or.inl rfl⟩
        · rw [hu, up1_ne q]; exact ⟨Int.le_refl _, by omega, Or.inr rfl⟩
      have h22 : Go 97 10 [.inr (.inl (some 76)), .inr (.inl (some n)), .inl x, .inl (1 - d), .inl (b01 (f x < z)), .inl (J 96 (sa J s x) - 2), .inl k, w] [] (mI h (rowU I 77 (up1 f x z))) = if u < z then Go 97 43 [.inr (.inl (some 76)), .inr (.inl (some n)), .inl x, .inl (1 - d), .inl (b01 (f x < z)), .inl (J 96 (sa J s x) - 2), .inl k, .inl y] [] (mI h (rowU I 77 (up1 f x z))) else Go 97 31 [.inr (.inl (some 76)), .inr (.inl (some n)), .inl x, .inl (1 - d), .inl (b01 (f x < z)), .inl (J 96 (sa J s x) - 2), .inl k, .inl y] [] (mI h (rowU I 77 (up1 f x z))) := by
        rw [b97_10, if_neg (by omega), b97_13 L9, k93 L0 L9 L4 (BU _) R (NU _) W8 ⟨by omega, by omega⟩ ⟨k0, by omega⟩, caln_r, p4 k k0 k1, ← hy, b97_18, if_neg (by omega), b97_22 L9 (by omega) (by omega), ex, ey]
      rw [h22]
      by_cases c2 : u < z
      · rw [if_pos c2, b97_43 (by omega)]
        refine ⟨(z, .inl y), rfl, q1, by dsimp only; omega, fun b hb => ?_, q4.imp id (fun ⟨b, r1, r2⟩ => ⟨b, by rw [ek]; exact (hS b).mpr (Or.inl r1), r2⟩)⟩
        rw [ek] at hb
        obtain hb | hb := (hS b).mp hb
        · exact q3 b hb
        · rw [← hy] at hb
          subst hb
          dsimp only
          omega
      · rw [if_neg c2, b97_31 L9 (by omega) (by rw [ey]; omega) (by omega), ey, b97_43 (by omega)]
        refine ⟨(u + 1, .inl y), ?_, by dsimp only; omega, by dsimp only; omega, fun b hb => ?_, Or.inr ⟨y, by rw [ek]; exact (hS y).mpr (Or.inr hy), ?_⟩⟩
        · dsimp only
          rw [zu2_row, rowU_tw, rowU_eq, b01_t (p := f x < u + 1) (by omega)]
          have : up1 (up1 f x z) x (u + 1) = up1 f x (u + 1) := funext fun j => by
            by_cases q : j = x
            · subst q; rw [up1_eq, up1_eq]
            · rw [up1_ne q, up1_ne q, up1_ne q]
          rw [this]
        · rw [ek] at hb
          dsimp only
          obtain hb | hb := (hS b).mp hb
          · have := q3 b hb
            omega
          · rw [← hy] at hb
            subst hb
            omega
        · dsimp only
          obtain q | q := hub.2.2
          · exact Or.inr q
          · exact Or.inl (by omega)
theorem k97n {h : HP} {I J : Nat → Int → Int} {n : Nat} {s d x : Int} {v4 v5 v6 v7 : MV} (L0 : LX 0 h 2) (L9 : LX 9 h 76) (L4 : LX 4 h n) (B : BC I J) (R : RB J) (N : NC I J n s) (W8 : WN J) (hd : d = 0 ∨ d = 1) (hx : 0 ≤ x ∧ x < J 94 0) (h2 : J 95 x ≠ 2) (h8 : J 118 (120 * s + x) = 0) :
    Go 97 0 [.inr (.inl (some 76)), .inr (.inl (some n)), .inl x, .inl (1 - d), v4, v5, v6, v7] [] (mI h I) = some (mI h I, .inl (some (.inl 0))) := by
  have hT := R.1.1
  have e : sa J s x = x := if_pos h8
  have ep : pnP J s d x = 0 := by
    unfold pnP
    split
    · rfl
    · rw [e]
      unfold paO
      rw [kdO_t hx, if_neg h2]
  rw [b97_0 L9, k92 L0 L9 L4 B R N W8 ⟨hx.1, by omega⟩ hd, caln_r, ep, b97_7, b97_10, if_pos (Int.le_refl _), b97_45 (Or.inl rfl)]
