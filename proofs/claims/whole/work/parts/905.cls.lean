/-! ===== the class (35): the walker: who is ahead ===== -/
theorem k90 {h : HP} {I J : Nat → Int → Int} {n : Nat} {s x y : Int} {v4 v5 : MV} (L0 : LX 0 h 2) (L9 : LX 9 h 76) (L4 : LX 4 h n) (B : BC I J) (R : RB J) (N : NC I J n s) (W8 : WN J) (V : WV J) (hs : s = 0 ∨ s = 1) (hx : Vs J x) (hy : Vs J y) :
    Go 90 0 [.inr (.inl (some 76)), .inr (.inl (some n)), .inl x, .inl y, v4, v5] [] (mI h I) = some (mI h I, .inl (some (.inl (b01 (Ah J s (I 77) x y))))) := by
  have hT := R.1.1
  have hx1 := hx.1
  have hy1 := hy.1
  have vx := sa_v W8 V hs hx.1 hx.2
  have vy := sa_v W8 V hs hy.1 hy.2
  have px := (pn_v R.1 W8 V hs hx).2.1
  have py := (pn_v R.1 W8 V hs hy).2.1
  have ex : nuO J (sa J s x) 1 = dt J s x := if_pos ⟨vx.1, by omega, by omega⟩
  have ey : nuO J (sa J s y) 1 = dt J s y := if_pos ⟨vy.1, by omega, by omega⟩
  have nx : nmO J x = J 98 x := if_pos hx.1
  have ny : nmO J y = J 98 y := if_pos hy.1
  rw [b90_0 L9 (by omega) (by omega)]
  unfold Ah
  by_cases c1 : I 77 x = I 77 y
  · rw [if_pos c1, b90_22 L9, k91 L4 N W8 (by omega), caln_r, b90_28 L0, k6 L0 B R, caln_r, b90_30 L9, k91 L4 N W8 (by omega), caln_r, b90_37 L0, k6 L0 B R, caln_r, b90_39, ex, ey]
    by_cases c2 : dt J s x = dt J s y
    · rw [if_pos c2, b90_50 L9 L0, k4 L0 B R, caln_r, b90_54 L9 L0, k4 L0 B R, caln_r, nx, ny, b90_58]
      by_cases c3 : J 98 y ≤ J 98 x
      · rw [if_pos c3, b90_61, b90_62 (Or.inl rfl), b01_f (by omega)]
      · rw [if_neg c3, b90_59, b90_62 (Or.inr rfl), b01_t (by omega)]
    · rw [if_neg c2, b90_43]
      by_cases c3 : dt J s x ≤ dt J s y
      · rw [if_pos c3, b90_48, b90_62 (Or.inl rfl), b01_f (by omega)]
      · rw [if_neg c3, b90_46, b90_62 (Or.inr rfl), b01_t (by omega)]
  · rw [if_neg c1, b90_9 L9 (by omega) (by omega)]
    by_cases c2 : I 77 x ≤ I 77 y
    · rw [if_pos c2, b90_20, b90_21 (Or.inl rfl), b01_f (by omega)]
    · rw [if_neg c2, b90_18, b90_21 (Or.inr rfl), b01_t (by omega)]
theorem k89 {h : HP} {I J : Nat → Int → Int} {n : Nat} {s x c : Int} {S : Int → Prop} {v3 : MV} (L0 : LX 0 h 2) (L9 : LX 9 h 76) (L4 : LX 4 h n) (hn : n + 4 < 76) (B : BC I J) (R : RB J) (N : NC I J n s) (W8 : WN J) (V : WV J) (hs : s = 0 ∨ s = 1) (hx : Vs J x) (hS : ∀ j, S j → Vs J j) (nx : ¬S x) (h5 : I 76 5 = c) (hc : 0 ≤ c ∧ c < 100) (E : Enum S (Ah J s (I 77)) c (I 80)) :
    ∃ f, Go 89 0 [.inr (.inl (some 76)), .inr (.inl (some n)), .inl x, v3] [] (mI h I) = some (mI h (rowU (rowU I 80 f) 76 (up1 (I 76) 5 (c + 1))), .inl none) ∧ Enum (fun j => S j ∨ j = x) (Ah J s (I 77)) (c + 1) f := by
  have tO : TO (fun j => S j ∨ j = x) (Ah J s (I 77)) := TO_Ah (RB_nm R) (fun j q => q.elim (fun q => (hS j q).1) (fun q => by rw [q]; exact hx.1))
  have BU : ∀ g, BC (rowU I 80 g) J := fun g => by rw [BC_U (by decide)]; exact B
  have NU : ∀ g, NC (rowU I 80 g) J n s := fun g => by
    unfold NC
    rw [NO_I (I := I) (n := n) (fun c c0 c1 => rowU_ne (by omega))]
    exact N
  have e77 : ∀ g, rowU I 80 g 77 = I 77 := fun g => rowU_ne (by decide)
  have ins := lpIns (fun p g => Go 89 3 [.inr (.inl (some 76)), .inr (.inl (some n)), .inl x, .inl p] [] (mI h (rowU I 80 g))) (fun g => some (mI h (rowU (rowU I 80 g) 76 (up1 (I 76) 5 (c + 1))), .inl none)) (fun y => Ah J s (I 77) x y) (I 80) x c hc.1 ?_ ?_
  · obtain ⟨p, hp, q1, q2, e⟩ := ins
    rw [rowU_id] at e
    refine ⟨up1 (shR (I 80) p c) p x, ?_, insE tO E nx hp q1 q2⟩
    rw [b89_0 L9, h5, e]
  · intro p g p0 p1 eg _ hcc
    have hs2 := hS _ (E.1 (p - 1) (by omega) (by omega))
    have k := k90 (v4 := vU) (v5 := vU) L0 L9 L4 (BU g) R (NU g) W8 V hs hx hs2
    rw [e77] at k
    rw [b89_3, if_neg (by omega), b89_5 L9 (by omega) (by omega), rowU_eq, eg, k, caln_r, b89_15, b01_t hcc, if_neg neg1_ne, b89_16 L9 (by omega) (by omega) (by omega) (by omega), zu2_row, rowU_tw, rowU_eq, eg, show p + -1 = p - 1 by omega]
  · intro p g p0 p1 hg hcc
    have fin : Go 89 28 [.inr (.inl (some 76)), .inr (.inl (some n)), .inl x, .inl p] [] (mI h (rowU I 80 g)) = some (mI h (rowU (rowU I 80 (up1 g p x)) 76 (up1 (I 76) 5 (c + 1))), .inl none) := by
      have e1 : zu2 (rowU I 80 g) 80 p x = rowU I 80 (up1 g p x) := by rw [zu2_row, rowU_tw, rowU_eq]
      have e2 : rowU I 80 (up1 g p x) 76 = I 76 := rowU_ne (by decide)
      rw [b89_28 L9 (by omega) (by rw [e1, e2]; omega), e1, zu2_row, e2, h5]
    rw [b89_3]
    by_cases hp0 : p ≤ 0
    · rw [if_pos hp0, fin]
    · have eg := hg (p - 1) (by omega)
      have hs2 := hS _ (E.1 (p - 1) (by omega) (by omega))
      have k := k90 (v4 := vU) (v5 := vU) L0 L9 L4 (BU g) R (NU g) W8 V hs hx hs2
      rw [e77] at k
      rw [if_neg hp0, b89_5 L9 (by omega) (by omega), rowU_eq, eg, k, caln_r, b89_15, b01_f (hcc.resolve_left (by omega)), if_pos rfl, fin]
