/-! ===== the class (15): deeds are kept ===== -/
def OAr (x : Nat) : Prop := (x = 14 ∨ x = 46) ∨ x = 30 ∨ x = 62
def owz (x : Nat) : Nat := if x = 14 ∨ x = 46 then 5 else 4
/-- who owns what: packs and notes that were made lie apart -/
def OWN (h : HP) : Prop := 140 ≤ hN h ∧ (∀ x k a, OAr x → hR h x k = some a → (140 ≤ a ∧ a + owz x < hN h) ∧ LX (if x = 14 ∨ x = 46 then 5 else 4) h a) ∧ ∀ x k a y j b, OAr x → OAr y → hR h x k = some a → hR h y j = some b → (x = y ∧ k = j) ∨ a + owz x < b ∨ b + owz y < a
/-- deeds are of what there is -/
def WQc (J : Nat → Int → Int) : Prop := ∀ s k, s = 0 ∨ s = 1 → 0 ≤ k → k < J 104 s → (0 ≤ J 105 (30 * s + k) ∧ J 105 (30 * s + k) ≤ 4) ∧ (J 105 (30 * s + k) = 0 ∨ J 105 (30 * s + k) = 2 → 0 ≤ J 106 (30 * s + k) ∧ J 106 (30 * s + k) < 100) ∧ (J 105 (30 * s + k) = 1 ∨ J 105 (30 * s + k) = 3 → 20 * s ≤ J 106 (30 * s + k) ∧ J 106 (30 * s + k) < 20 * s + 20)
def KC (I J : Nat → Int → Int) (d : Nat) (s : Int) : Prop := (∀ o, 0 ≤ o → o < 100 → I (d + 2) o = kc J s o) ∧ ∀ p, 0 ≤ p → p < 20 → I (d + 5) p = J 110 (20 * s + p)
theorem k52 {h : HP} {I J M : Nat → Int → Int} {d : Nat} {s k n : Int} {v2 : MV} (L : LX 3 h d) (C : KC I M d s) (D : DD h I J d s n) (Q : WQc J) (E : WL J) (hs : s = 0 ∨ s = 1) (hk : 0 ≤ k ∧ k < n) (hn : n ≤ J 104 s) (h30 : J 104 s ≤ 30) (h5 : M 105 = J 105) (h6 : M 106 = J 106) (h7 : M 107 = J 107) :
    ∃ I1, Go 52 0 [.inr (.inl (some d)), .inl k, v2] [] (mI h I) = some (mI h I1, .inl none) ∧ KC I1 (kD M s k) d s ∧ ∀ c, c ≠ d + 2 → c ≠ d + 5 → I1 c = I c := by
  obtain ⟨q0, q1, q2⟩ := Q s k hs hk.1 (by omega)
  obtain ⟨d0, d1, d2, d3, _⟩ := D k hk.1 hk.2
  have e18 := E.2.1 (30 * s + k)
  rw [b52_0 L (by omega)]
  unfold kD
  rw [h5, h6, h7]
  have i2 : ∀ o v, zu2 I (d + 2) o v (d + 2) = up1 (I (d + 2)) o v := fun o v => by rw [zu2_row, rowU_eq]
  have i5 : ∀ o v, zu2 I (d + 2) o v (d + 5) = I (d + 5) := fun o v => by rw [zu2_row, rowU_ne (by omega)]
  have j2 : ∀ o v, zu2 I (d + 5) o v (d + 2) = I (d + 2) := fun o v => by rw [zu2_row, rowU_ne (by omega)]
  have j5 : ∀ o v, zu2 I (d + 5) o v (d + 5) = up1 (I (d + 5)) o v := fun o v => by rw [zu2_row, rowU_eq]
  have fr : ∀ (a : Nat) o v, a = d + 2 ∨ a = d + 5 → ∀ c, c ≠ d + 2 → c ≠ d + 5 → zu2 I a o v c = I c := fun a o v ha c c2 c5 => by rw [zu2_row, rowU_ne (by omega)]
  by_cases a0 : J 105 (30 * s + k) = 0
  · have t := q1 (Or.inl a0)
    have e17 := d2 (Or.inl a0)
    have e18b := d1 a0
    refine ⟨zu2 I (d + 2) (J 106 (30 * s + k)) (if J 107 (30 * s + k) = 1 then 2 else 1), ?_, ⟨fun o o0 o1 => ?_, fun p p0 p1 => ?_⟩, fr _ _ _ (Or.inl rfl)⟩
    · rw [d0, if_neg (fun q => q a0), b52_10 L (by omega), e17, e18b]
      obtain e | e := e18
      · rw [if_pos e, b52_20, b52_21 L (by omega), b52_60, if_neg (show ¬J 107 (30 * s + k) = 1 by omega)]
      · rw [if_neg (show ¬J 107 (30 * s + k) = 0 by omega), b52_18, b52_21 L (by omega), b52_60, if_pos e]
    · rw [if_pos a0, i2]
      unfold kc
      rw [rowU_ne (by decide), rowU_eq, rowU_eq]
      by_cases ho : o = J 106 (30 * s + k)
      · subst ho
        rw [up1_eq, up1_eq, up1_eq, if_neg (show ¬(1 : Int) = 0 by decide)]
      · rw [up1_ne ho, up1_ne (by omega), up1_ne (by omega)]
        exact C.1 o o0 o1
    · rw [if_pos a0, i5, rowU_ne (by decide), rowU_ne (by decide)]
      exact C.2 p p0 p1
  · rw [if_neg a0, d0, if_pos a0, b52_23 L (by omega), d0]
    by_cases a2 : J 105 (30 * s + k) = 2
    · have t := q1 (Or.inr a2)
      have e17 := d2 (Or.inr a2)
      refine ⟨zu2 I (d + 2) (J 106 (30 * s + k)) 0, ?_, ⟨fun o o0 o1 => ?_, fun p p0 p1 => ?_⟩, fr _ _ _ (Or.inl rfl)⟩
      · rw [if_neg (fun q => q a2), e17, b52_29 L (by omega), b52_60]
      · rw [if_neg (by omega), if_pos a2, i2]
        unfold kc
        rw [rowU_eq, rowU_ne (by decide)]
        by_cases ho : o = J 106 (30 * s + k)
        · subst ho
          rw [up1_eq, up1_eq, if_pos rfl]
        · rw [up1_ne ho, up1_ne (by omega)]
          exact C.1 o o0 o1
      · rw [if_neg (by omega), if_pos a2, i5, rowU_ne (by decide)]
        exact C.2 p p0 p1
    · rw [if_pos a2, b52_35 L (by omega), d0, if_neg a2]
      by_cases a1 : J 105 (30 * s + k) = 1
      · have t := q2 (Or.inl a1)
        have e17 := d3 (Or.inl a1)
        refine ⟨zu2 I (d + 5) (J 106 (30 * s + k) - 20 * s) 1, ?_, ⟨fun o o0 o1 => ?_, fun p p0 p1 => ?_⟩, fr _ _ _ (Or.inr rfl)⟩
        · rw [if_pos a1, e17, b52_47 L (by omega), d0, if_neg (fun q => q a1), b52_56, b52_59 L (by omega) (Or.inr rfl), b52_60]
        · rw [if_pos a1, j2]
          unfold kc
          rw [rowU_ne (by decide), rowU_ne (by decide)]
          exact C.1 o o0 o1
        · rw [if_pos a1, j5, rowU_eq]
          by_cases ho : p = J 106 (30 * s + k) - 20 * s
          · subst ho
            rw [up1_eq, show 20 * s + (J 106 (30 * s + k) - 20 * s) = J 106 (30 * s + k) by omega, up1_eq]
          · rw [up1_ne ho, up1_ne (by omega)]
            exact C.2 p p0 p1
      · rw [if_neg a1, if_neg a1, b52_41 L (by omega), d0]
        by_cases a3 : J 105 (30 * s + k) = 3
        · have t := q2 (Or.inr a3)
          have e17 := d3 (Or.inr a3)
          refine ⟨zu2 I (d + 5) (J 106 (30 * s + k) - 20 * s) 0, ?_, ⟨fun o o0 o1 => ?_, fun p p0 p1 => ?_⟩, fr _ _ _ (Or.inr rfl)⟩
          · rw [if_neg (fun q => q a3), e17, b52_47 L (by omega), d0, if_pos a1, b52_58, b52_59 L (by omega) (Or.inl rfl), b52_60]
          · rw [if_pos a3, j2]
            unfold kc
            rw [rowU_ne (by decide), rowU_ne (by decide)]
            exact C.1 o o0 o1
          · rw [if_pos a3, j5, rowU_eq]
            by_cases ho : p = J 106 (30 * s + k) - 20 * s
            · subst ho
              rw [up1_eq, show 20 * s + (J 106 (30 * s + k) - 20 * s) = J 106 (30 * s + k) by omega, up1_eq]
            · rw [up1_ne ho, up1_ne (by omega)]
              exact C.2 p p0 p1
        · refine ⟨I, ?_, ?_, fun _ _ _ => rfl⟩
          · rw [if_pos a3, b52_60]
          · rw [if_neg a3]
            exact C
theorem OAr_19 {d : Nat} (hd : d = 11 ∨ d = 43) : OAr (d + 19) := by unfold OAr; omega
theorem OAr_3 {d : Nat} (hd : d = 11 ∨ d = 43) : OAr (d + 3) := by unfold OAr; omega
theorem DD_I {h : HP} {I K J : Nat → Int → Int} {d : Nat} {s n : Int} (W : OWN h) (hd : d = 11 ∨ d = 43) (H : ∀ c, (c = d + 16 ∨ c = d + 17) ∨ c = d + 18 ∨ 140 ≤ c → K c = I c) (D : DD h I J d s n) : DD h K J d s n := by
  intro i i0 i1
  rw [H (d + 16) (Or.inl (Or.inl rfl)), H (d + 17) (Or.inl (Or.inr rfl)), H (d + 18) (Or.inr (Or.inl rfl))]
  have q := D i i0 i1
  refine ⟨q.1, q.2.1, q.2.2.1, q.2.2.2.1, fun q4 => ?_⟩
  obtain ⟨a, ha, hNS⟩ := q.2.2.2.2 q4
  have oa := OAr_19 hd
  have o3 : 140 ≤ a := (W.2.1 _ _ _ oa ha).1.1
  refine ⟨a, ha, ?_⟩
  unfold NS
  rw [NO_I (I := I) (n := a) (fun c q0 q1 => H c (Or.inr (Or.inr (Nat.le_trans o3 q0))))]
  exact hNS
/-- the last note that was kept -/
theorem cS_n {J : Nat → Int → Int} {s x : Int} : ∀ n : Nat, (cS J s x n).2.1 = 0 ∨ (1 ≤ (cS J s x n).2.1 ∧ (cS J s x n).2.1 ≤ n ∧ J 105 (30 * s + ((cS J s x n).2.1 - 1)) = 4)
  | 0 => Or.inl rfl
  | n + 1 => by
    have ih := cS_n (J := J) (s := s) (x := x) n
    have e := cS_s (I := J) (s := s) (x := x) (k := n) (by omega)
    rw [show ((n : Int) + 1).toNat = n + 1 by omega, Int.toNat_natCast] at e
    rw [e]
    by_cases hc : cB J s x n (cS J s x n).2.2
    · rw [if_pos hc]
      dsimp only
      by_cases a4 : J 105 (30 * s + n) = 4
      · rw [if_pos a4]
        exact Or.inr ⟨by omega, by omega, by rw [show 1 + (n : Int) - 1 = n by omega]; exact a4⟩
      · rw [if_neg a4]
        exact ih.imp id (fun q => ⟨q.1, by omega, q.2.2⟩)
    · rw [if_neg hc]
      dsimp only
      exact ih.imp id (fun q => ⟨q.1, by omega, q.2.2⟩)
theorem k51 {h : HP} {I J : Nat → Int → Int} {d : Nat} {s x : Int} {v2 v3 v4 v5 : MV} (hd : d = 11 ∨ d = 43) (L : LX 3 h d) (L4 : LX 4 h (d + 11)) (W : OWN h) (D : DN h I J d s) (Q : WQc J) (E : WL J) (hs : s = 0 ∨ s = 1) (h30 : 0 ≤ J 104 s ∧ J 104 s ≤ 30) (hx : 0 ≤ x) :
    ∃ I1, Go 51 0 [.inr (.inl (some d)), .inl x, v2, v3, v4, v5] [] (mI h I) = some (mI h I1, .inl (some (.inl (J 104 s - (cS J s x (J 104 s).toNat).2.2)))) ∧ KC I1 (cS J s x (J 104 s).toNat).1 d s ∧ NS I1 J (d + 11) s (cS J s x (J 104 s).toNat).2.1 ∧ I1 d 12 = 0 ∧ (∀ k, k ≠ 12 → I1 d k = I d k) ∧ ∀ c, c ≠ d → c ≠ d + 2 → c ≠ d + 5 → (c < d + 11 ∨ d + 15 < c) → I1 c = I c := by
  obtain ⟨n, hn⟩ : ∃ n, n = J 104 s := ⟨_, rfl⟩
  have DD0 := D.2.2.2.2
  have e12 := D.2.2.2.1
  rw [← hn] at DD0 e12 h30 ⊢
  have stop : ∀ (y : Nat → Int → Int) (r : Option Nat) (v : MV) (z : Int), (∀ c, c ≠ d + 2 → c ≠ d + 5 → y c = I c) → ∀ k, k < n → 0 ≤ k → Go 51 6 [.inr (.inl (some d)), .inl x, .inl z, .inr (.inl r), .inl k, v] [] (mI h y) = Go 51 10 [.inr (.inl (some d)), .inl x, .inl z, .inr (.inl r), .inl k, v] [] (mI h y) := by
    intro y r v z hy k h1 h0
    rw [b51_6 L, hy d (by omega) (by omega), e12, if_neg (by omega)]
  have key := lpE (fun k (y : (Nat → Int → Int) × Option Nat × MV) => Go 51 6 [.inr (.inl (some d)), .inl x, .inl (k - (cS J s x k.toNat).2.2), .inr (.inl (y.2.1)), .inl k, y.2.2] [] (mI h y.1))
    (fun k y => KC y.1 (cS J s x k.toNat).1 d s ∧ y.2.1 = (if (cS J s x k.toNat).2.1 = 0 then none else hR h (d + 19) ((cS J s x k.toNat).2.1 - 1)) ∧ ∀ c, c ≠ d + 2 → c ≠ d + 5 → y.1 c = I c) 0 n h30.1 ?_ (I, none, v5) ⟨⟨fun o o0 o1 => (D.1.1 o o0 o1).2, fun p p0 p1 => (D.1.2 p p0 p1).2⟩, rfl, fun _ _ _ => rfl⟩
  · obtain ⟨⟨y, r, v⟩, e, hC, hr, hy⟩ := key
    dsimp only at e hC hr hy
    have hb := cS_b (I := J) (s := s) (x := x) n.toNat
    have hcn := cS_n (J := J) (s := s) (x := x) n.toNat
    have ed : y d = I d := hy d (by omega) (by omega)
    have start : Go 51 0 [.inr (.inl (some d)), .inl x, v2, v3, v4, v5] [] (mI h I) = Go 51 56 [.inr (.inl (some d)), .inl x, .inl (n - (cS J s x n.toNat).2.2), .inr (.inl r), .inl n, v] [] (mI h y) := by
      have e0 : Go 51 6 [.inr (.inl (some d)), .inl x, .inl (0 - (cS J s x (0 : Int).toNat).2.2), .inr (.inl none), .inl 0, v5] [] (mI h I) = Go 51 6 [.inr (.inl (some d)), .inl x, .inl (n - (cS J s x n.toNat).2.2), .inr (.inl r), .inl n, v] [] (mI h y) := e
      rw [b51_0]
      refine Eq.trans ?_ (e0.trans ?_)
      · rfl
      · rw [b51_6 L, ed, e12, if_pos (Int.le_refl _)]
    rw [start, b51_56, hr]
    by_cases h0 : (cS J s x n.toNat).2.1 = 0
    · rw [if_pos h0]
      refine ⟨zu2 y d 12 0, ?_, ⟨fun o o0 o1 => ?_, fun p p0 p1 => ?_⟩, ?_, ?_, fun k hk => ?_, fun c c0 c2 c5 c11 => ?_⟩
      · rw [if_pos rfl, b51_62 L]
      · rw [zu2_row, rowU_ne (by omega)]
        exact hC.1 o o0 o1
      · rw [zu2_row, rowU_ne (by omega)]
        exact hC.2 p p0 p1
      · rw [h0]
        unfold NS
        rw [NO_I (I := I) (fun c q0 q1 => by rw [zu2_row, rowU_ne (by omega), hy c (by omega) (by omega)])]
        exact D.2.2.1
      · rw [zu2_row, rowU_eq, up1_eq]
      · rw [zu2_row, rowU_eq, up1_ne hk, ed]
      · rw [zu2_row, rowU_ne c0, hy c c2 c5]
    · have hc := hcn.resolve_left h0
      obtain ⟨a, ha, hNS⟩ := (DD0 ((cS J s x n.toNat).2.1 - 1) (by omega) (by omega)).2.2.2.2 hc.2.2
      rw [show (cS J s x n.toNat).2.1 - 1 + 1 = (cS J s x n.toNat).2.1 by omega] at hNS
      have oa := OAr_19 hd
      obtain ⟨o1, o2⟩ := W.2.1 _ _ _ oa ha
      rw [if_neg (by omega)] at o2
      have ow : owz (d + 19) = 4 := if_neg (by omega)
      rw [ow] at o1
      have hNS2 : NS y J a s (cS J s x n.toNat).2.1 := by
        unfold NS
        rw [NO_I (I := I) (fun c q0 q1 => hy c (by omega) (by omega))]
        exact hNS
      obtain ⟨I1, e1, f1, f2, f3⟩ := k54 (h := h) (I := y) (a := d + 11) (b := a) (v2 := vU) L4 o2 (by omega) hNS2 (fun o => b01_or _) (fun o => b01_or _)
      rw [if_neg h0, ha]
      refine ⟨zu2 I1 d 12 0, ?_, ⟨fun o o0 o1 => ?_, fun p p0 p1 => ?_⟩, ?_, ?_, fun k hk => ?_, fun c c0 c2 c5 c11 => ?_⟩
      · rw [if_neg (fun q => by cases q), b51_58 L L4, e1, caln_v, b51_62 L]
      · rw [zu2_row, rowU_ne (by omega), f1 _ (by omega)]
        exact hC.1 o o0 o1
      · rw [zu2_row, rowU_ne (by omega), f1 _ (by omega)]
        exact hC.2 p p0 p1
      · unfold NS
        rw [NO_I (I := I1) (fun c q0 q1 => by rw [zu2_row, rowU_ne (by omega)])]
        exact f3
      · rw [zu2_row, rowU_eq, up1_eq]
      · rw [zu2_row, rowU_eq, up1_ne hk, f1 d (by omega), ed]
      · rw [zu2_row, rowU_ne c0, f1 c c11, hy c c2 c5]
  · rintro k ⟨y, r, v⟩ k0 k1 ⟨hC, hr, hy⟩
    dsimp only at hC hr hy ⊢
    have q0 := (Q s k hs k0 (by omega)).1
    have d0 := (DD0 k k0 k1).1
    have hb := cS_b (I := J) (s := s) (x := x) k.toNat
    have y16 : y (d + 16) = I (d + 16) := hy _ (by omega) (by omega)
    have eS := cS_s (I := J) (s := s) (x := x) k0
    have h24 : Go 51 6 [.inr (.inl (some d)), .inl x, .inl (k - (cS J s x k.toNat).2.2), .inr (.inl r), .inl k, v] [] (mI h y) = Go 51 24 [.inr (.inl (some d)), .inl x, .inl (k - (cS J s x k.toNat).2.2), .inr (.inl r), .inl k, v] [.inl (b01 (J 105 (30 * s + k) < 2))] (mI h y) := by
      rw [stop y r v _ hy k k1 k0, b51_10 L (by omega), y16, d0]
      by_cases a0 : J 105 (30 * s + k) = 0
      · rw [if_pos a0, b51_21, b01_t (by omega)]
      · rw [if_neg a0, b51_15 L (by omega), y16, d0]
        by_cases a1 : J 105 (30 * s + k) = 1
        · rw [if_neg (fun q => q a1), b51_21, b01_t (by omega)]
        · rw [if_pos a1, b51_23, b01_f (by omega)]
    have skip : ¬cB J s x k (cS J s x k.toNat).2.2 → ∀ w : Int, ∃ x1 : (Nat → Int → Int) × Option Nat × MV, Go 51 54 [.inr (.inl (some d)), .inl x, .inl (k - (cS J s x k.toNat).2.2), .inr (.inl r), .inl k, .inl w] [] (mI h y) = Go 51 6 [.inr (.inl (some d)), .inl x, .inl (k + 1 - (cS J s x (k + 1).toNat).2.2), .inr (.inl (x1.2.1)), .inl (k + 1), x1.2.2] [] (mI h x1.1) ∧ KC x1.1 (cS J s x (k + 1).toNat).1 d s ∧ x1.2.1 = (if (cS J s x (k + 1).toNat).2.1 = 0 then none else hR h (d + 19) ((cS J s x (k + 1).toNat).2.1 - 1)) ∧ ∀ c, c ≠ d + 2 → c ≠ d + 5 → x1.1 c = I c := by
      intro hc w
      rw [eS, if_neg hc]
      refine ⟨(y, r, .inl w), ?_, hC, hr, hy⟩
      dsimp only
      rw [b51_54 (by omega), show k + 1 - ((cS J s x k.toNat).2.2 + 1) = k - (cS J s x k.toNat).2.2 by omega]
    have take : cB J s x k (cS J s x k.toNat).2.2 → ∀ w : MV, ∃ x1 : (Nat → Int → Int) × Option Nat × MV, Go 51 37 [.inr (.inl (some d)), .inl x, .inl (k - (cS J s x k.toNat).2.2), .inr (.inl r), .inl k, .inl (b01 (J 105 (30 * s + k) < 2))] [] (mI h y) = Go 51 6 [.inr (.inl (some d)), .inl x, .inl (k + 1 - (cS J s x (k + 1).toNat).2.2), .inr (.inl (x1.2.1)), .inl (k + 1), x1.2.2] [] (mI h x1.1) ∧ KC x1.1 (cS J s x (k + 1).toNat).1 d s ∧ x1.2.1 = (if (cS J s x (k + 1).toNat).2.1 = 0 then none else hR h (d + 19) ((cS J s x (k + 1).toNat).2.1 - 1)) ∧ ∀ c, c ≠ d + 2 → c ≠ d + 5 → x1.1 c = I c := by
      intro hc w
      rw [eS, if_pos hc]
      have DDy : DD h y J d s n := DD_I W hd (fun c hc => hy c (by omega) (by omega)) DD0
      obtain ⟨I1, e1, f1, f2⟩ := k52 (h := h) (I := y) (J := J) (M := (cS J s x k.toNat).1) (d := d) (s := s) (k := k) (n := n) (v2 := vU) L hC DDy Q E hs ⟨k0, k1⟩ (by omega) (by omega) (cS_f (by decide) (by decide) (by decide) _) (cS_f (by decide) (by decide) (by decide) _) (cS_f (by decide) (by decide) (by decide) _)
      have g16 : I1 (d + 16) = I (d + 16) := (f2 _ (by omega) (by omega)).trans y16
      refine ⟨(I1, if J 105 (30 * s + k) = 4 then hR h (d + 19) k else r, .inl (b01 (J 105 (30 * s + k) < 2))), ?_, f1, ?_, fun c c2 c5 => (f2 c c2 c5).trans (hy c c2 c5)⟩
      · dsimp only
        rw [b51_37 (by omega) L, e1, caln_v, b51_41 L (by omega), g16, d0]
        by_cases a4 : J 105 (30 * s + k) = 4
        · rw [if_neg (fun q => q a4), b51_47 L (by omega), b51_53, b51_54 (by omega), if_pos a4, show k - (cS J s x k.toNat).2.2 + 1 = k + 1 - (cS J s x k.toNat).2.2 by omega]
        · rw [if_pos a4, b51_52, b51_53, b51_54 (by omega), if_neg a4, show k - (cS J s x k.toNat).2.2 + 1 = k + 1 - (cS J s x k.toNat).2.2 by omega]
      · dsimp only
        by_cases a4 : J 105 (30 * s + k) = 4
        · rw [if_pos a4, if_pos a4, if_neg (by omega), show 1 + k - 1 = k by omega]
        · rw [if_neg a4, if_neg a4]
          exact hr
    rw [h24, b51_24 ⟨hx, k0, by omega⟩]
    by_cases hz : zand (x / 2 ^ k.toNat) 1 = 1
    · rw [if_neg (fun q => q hz), b51_32]
      by_cases a2 : J 105 (30 * s + k) < 2
      · rw [b01_t a2, if_pos neg1_ne]
        have tk := take ⟨hz, Or.inl a2⟩ vU
        rw [b01_t a2] at tk
        exact tk
      · rw [b01_f a2, if_neg (fun q => q rfl), b51_34]
        by_cases hl : (cS J s x k.toNat).2.2 = 0
        · rw [if_neg (by omega)]
          have tk := take ⟨hz, Or.inr hl⟩ vU
          rw [b01_f a2] at tk
          exact tk
        · rw [if_pos (by omega)]
          exact skip (fun q => q.2.elim a2 hl) _
    · rw [if_pos hz]
      exact skip (fun q => hz q.1) _
