/-! ===== the class (30): the walker: parents ===== -/
theorem k91 {h : HP} {I J : Nat → Int → Int} {n : Nat} {s x : Int} {v3 : MV} (L4 : LX 4 h n) (N : NC I J n s) (W8 : WN J) (hx : 0 ≤ x ∧ x < 100) : Go 91 0 [.inr (.inl (some 76)), .inr (.inl (some n)), .inl x, v3] [] (mI h I) = some (mI h I, .inl (some (.inl (sa J s x)))) := by
  have e : I (n + 2) x = J 118 (120 * s + x) - 1 := (N.2.2 x hx.1 hx.2).1
  have w := W8 (120 * s + x)
  rw [b91_0 L4 hx, e]
  unfold sa
  by_cases q : J 118 (120 * s + x) = 0
  · rw [if_neg (by omega), b91_8, b91_11, if_pos q]
  · rw [if_pos (by omega), b91_10, b91_11, if_neg q]
/-- how many parents are seen -/
def pnP (J : Nat → Int → Int) (s d o : Int) : Int := if d = 0 ∧ J 116 (120 * s + sa J s o) ≠ 0 then 0 else paO J (sa J s o)
theorem sa_r {J : Nat → Int → Int} (W8 : WN J) {s x : Int} (hx : 0 ≤ x ∧ x < 100) : 0 ≤ sa J s x ∧ sa J s x < 100 := by
  have w := W8 (120 * s + x)
  unfold sa
  split <;> omega
theorem k92 {h : HP} {I J : Nat → Int → Int} {n : Nat} {s d x : Int} {v4 : MV} (L0 : LX 0 h 2) (L9 : LX 9 h 76) (L4 : LX 4 h n) (B : BC I J) (R : RB J) (N : NC I J n s) (W8 : WN J) (hx : 0 ≤ x ∧ x < 100) (hd : d = 0 ∨ d = 1) : Go 92 0 [.inr (.inl (some 76)), .inr (.inl (some n)), .inl x, .inl (1 - d), v4] [] (mI h I) = some (mI h I, .inl (some (.inl (pnP J s d x)))) := by
  have sr := sa_r (s := s) W8 hx
  have e3 : I (n + 3) (sa J s x) = J 116 (120 * s + sa J s x) := (N.2.2 _ sr.1 sr.2).2.1
  rw [b92_0 L9, k91 L4 N W8 hx, caln_r, b92_4]
  unfold pnP
  by_cases q : 1 - d = 0
  · rw [if_pos q, b92_14 L9 L0, k9 L0 B R, caln_r, b92_18, if_neg (fun t => by have := t.1; omega)]
  · rw [if_neg q, b92_7 L4 sr, e3]
    by_cases r : J 116 (120 * s + sa J s x) = 0
    · rw [if_pos r, b92_14 L9 L0, k9 L0 B R, caln_r, b92_18, if_neg (fun t => t.2 r)]
    · rw [if_neg r, b92_12, b92_18, if_pos ⟨by omega, r⟩]
theorem k93 {h : HP} {I J : Nat → Int → Int} {n : Nat} {s x k : Int} (L0 : LX 0 h 2) (L9 : LX 9 h 76) (L4 : LX 4 h n) (B : BC I J) (R : RB J) (N : NC I J n s) (W8 : WN J) (hx : 0 ≤ x ∧ x < 100) (hk : 0 ≤ k ∧ k < 100) : Go 93 0 [.inr (.inl (some 76)), .inr (.inl (some n)), .inl x, .inl k] [] (mI h I) = some (mI h I, .inl (some (.inl (lkO J (sa J s x) (k + 1))))) := by
  rw [b93_0 L9, k91 L4 N W8 hx, caln_r, b93_6 (by omega) L0, k7 L0 B R, caln_r, b93_10]
/-- for versions -/
theorem pn_v {J : Nat → Int → Int} (W : WB J) (N8 : WN J) (V : WV J) {s x : Int} (hs : s = 0 ∨ s = 1) (hx : Vs J x) : paO J (sa J s x) = J 96 (sa J s x) - 2 ∧ 2 ≤ J 96 (sa J s x) ∧ J 96 (sa J s x) ≤ 4 ∧ ∀ k, 0 ≤ k → k < J 96 (sa J s x) - 2 → lkO J (sa J s x) (k + 1) = atR J (sa J s x) (k + 2) := by
  have v := sa_v N8 V hs hx.1 hx.2
  have w := (W.2 _ v.1.1 v.1.2).1
  have en : nL J (sa J s x) = J 96 (sa J s x) - 1 := by
    unfold nL
    rw [if_neg (by omega), if_pos v.2]
  refine ⟨?_, by omega, by omega, fun k k0 k1 => ?_⟩
  · unfold paO nlO
    rw [kdO_t v.1, if_pos v.2, if_pos v.1, en]
    omega
  · unfold lkO lkR lkP
    rw [if_pos ⟨v.1, by omega, by omega⟩, if_neg (by omega), if_pos v.2, if_neg (by omega), show k + 1 + 1 = k + 2 by omega]
theorem k95 {h : HP} {I J : Nat → Int → Int} {n m : Nat} {s x : Int} {P : Int → Prop} {v4 v5 v6 v7 : MV} (L0 : LX 0 h 2) (L9 : LX 9 h 76) (L4 : LX 4 h n) (Lm : hK h m = (1, 100)) (hm : 77 ≤ m) (hn : n + 4 < m) (B : BC I J) (R : RB J) (N : NC I J n s) (W8 : WN J) (V : WV J) (hs : s = 0 ∨ s = 1) (hx : Vs J x) :
    Go 95 0 [.inr (.inl (some 76)), .inr (.inl (some n)), .inl x, .inr (.inl (some m)), v4, v5, v6, v7] [] (mI h (rowU I m (ind P))) = some (mI h (rowU I m (ind (fun j => P j ∨ Es J s 0 x j))), .inl (some (.inl (b01 (∃ b, Es J s 0 x b ∧ ¬P b))))) := by
  have hT := R.1.1
  have hx1 := hx.1
  have BU : ∀ f, BC (rowU I m f) J := fun f => by rw [BC_U (by omega)]; exact B
  have NU : ∀ f, NC (rowU I m f) J n s := fun f => by
    unfold NC
    rw [NO_I (I := I) (n := n) (fun c c0 c1 => rowU_ne (by omega))]
    exact N
  obtain ⟨p1, p2, p3, p4⟩ := pn_v R.1 W8 V hs hx
  have v := sa_v W8 V hs hx.1 hx.2
  have h92 := fun f (v4 : MV) => k92 (I := rowU I m f) (d := 0) (v4 := v4) L0 L9 L4 (BU f) R (NU f) W8 (x := x) (s := s) ⟨by omega, by omega⟩ (Or.inl rfl)
  simp only [Int.sub_zero] at h92
  rw [b95_0 L9, h92, caln_r, b95_7]
  unfold pnP
  by_cases c : J 116 (120 * s + sa J s x) = 0
  · rw [if_neg (fun t => t.2 c), p1]
    have key := lpE (fun k (w : MV) => Go 95 10 [.inr (.inl (some 76)), .inr (.inl (some n)), .inl x, .inr (.inl (some m)), .inl (b01 (∃ b, Sb J (sa J s x) (k + 2) b ∧ ¬P b)), .inl (J 96 (sa J s x) - 2), .inl k, w] [] (mI h (rowU I m (ind (fun j => P j ∨ Sb J (sa J s x) (k + 2) j))))) (fun _ _ => True) 0 (J 96 (sa J s x) - 2) (by omega) ?_ v7 trivial
    · obtain ⟨w, e, _⟩ := key
      have z1 : b01 (∃ b, Sb J (sa J s x) (0 + 2) b ∧ ¬P b) = 0 := b01_f (fun ⟨b, ⟨j, h1, h2, _⟩, _⟩ => by omega)
      have z2 : ind (fun j => P j ∨ Sb J (sa J s x) (0 + 2) j) = ind P := ind_c (fun j => ⟨fun q => q.elim id (fun ⟨i, h1, h2, _⟩ => absurd h1 (by omega)), Or.inl⟩)
      rw [z1, z2] at e
      rw [e, b95_10, if_pos (Int.le_refl _), b95_34 (b01_or _), show J 96 (sa J s x) - 2 + 2 = J 96 (sa J s x) by omega]
      rw [ind_c (Q := fun j => P j ∨ Es J s 0 x j) (fun j => ⟨fun q => q.imp id (fun r => ⟨Or.inr c, r⟩), fun q => q.imp id And.right⟩), b01_c (q := ∃ b, Es J s 0 x b ∧ ¬P b) ⟨fun ⟨b, q, r⟩ => ⟨b, ⟨Or.inr c, q⟩, r⟩, fun ⟨b, q, r⟩ => ⟨b, q.2, r⟩⟩]
    · intro k w k0 k1 _
      have r := (Vs_p R.1 V v (j := k + 2) (by omega) (by omega)).1.1
      obtain ⟨y, hy⟩ : ∃ y, y = atR J (sa J s x) (k + 2) := ⟨_, rfl⟩
      rw [← hy] at r
      have ey : rowU I m (ind (fun j => P j ∨ Sb J (sa J s x) (k + 2) j)) m y = b01 (P y ∨ Sb J (sa J s x) (k + 2) y) := by rw [rowU_eq]; rfl
      have hS := fun b => Sb_s (I := J) (a := sa J s x) (m := k + 2) (by omega) b
      refine ⟨.inl y, ?_, trivial⟩
      rw [b95_10, if_neg (by omega), b95_13 L9, k93 L0 L9 L4 (BU _) R (NU _) W8 ⟨by omega, by omega⟩ ⟨k0, by omega⟩, caln_r, p4 k k0 k1, ← hy, b95_18, if_neg (by omega), b95_22 Lm (by omega), ey]
      by_cases q : P y ∨ Sb J (sa J s x) (k + 2) y
      · rw [b01_t q, if_pos neg1_ne, b95_32 (by omega), show k + 1 + 2 = k + 2 + 1 by omega]
        rw [ind_c (P := fun j => P j ∨ Sb J (sa J s x) (k + 2) j) (Q := fun j => P j ∨ Sb J (sa J s x) (k + 2 + 1) j) (fun j => ?_), b01_c (p := ∃ b, Sb J (sa J s x) (k + 2) b ∧ ¬P b) (q := ∃ b, Sb J (sa J s x) (k + 2 + 1) b ∧ ¬P b) ?_]
        · constructor
          · rintro ⟨b, r1, r2⟩
            exact ⟨b, (hS b).mpr (Or.inl r1), r2⟩
          · rintro ⟨b, r1, r2⟩
            obtain r1 | r1 := (hS b).mp r1
            · exact ⟨b, r1, r2⟩
            · rw [← hy] at r1
              subst r1
              exact ⟨b, q.resolve_left r2, r2⟩
        · rw [hS]
          constructor
          · rintro (r1 | r1)
            · exact Or.inl r1
            · exact Or.inr (Or.inl r1)
          · rintro (r1 | r1 | r1)
            · exact Or.inl r1
            · exact Or.inr r1
            · rw [← hy] at r1
              subst r1
              exact q
      · rw [b01_f q, if_neg (fun t => t rfl), b95_26 Lm (by omega), b95_32 (by omega), zu2_row, rowU_tw, rowU_eq, up1_ind1, show k + 1 + 2 = k + 2 + 1 by omega]
        rw [ind_c (Q := fun j => P j ∨ Sb J (sa J s x) (k + 2 + 1) j) (fun j => ?_), b01_t (p := ∃ b, Sb J (sa J s x) (k + 2 + 1) b ∧ ¬P b) ⟨y, (hS y).mpr (Or.inr hy), fun t => q (Or.inl t)⟩]
        rw [hS, ← hy]
        constructor
        · rintro ((r1 | r1) | r1)
          · exact Or.inl r1
          · exact Or.inr (Or.inl r1)
          · exact Or.inr (Or.inr r1)
        · rintro (r1 | r1 | r1)
          · exact Or.inl (Or.inl r1)
          · exact Or.inl (Or.inr r1)
          · exact Or.inr r1
  · rw [if_pos ⟨rfl, c⟩, b95_10, if_pos (Int.le_refl _), b95_34 (Or.inl rfl)]
    have no : ∀ b, ¬Es J s 0 x b := fun b q => q.1.elim (fun t => t rfl) (fun t => c t)
    rw [ind_c (Q := fun j => P j ∨ Es J s 0 x j) (fun j => ⟨Or.inl, fun q => q.elim id (fun r => absurd r (no j))⟩), b01_f (p := ∃ b, Es J s 0 x b ∧ ¬P b) (fun ⟨b, q, _⟩ => no b q)]
