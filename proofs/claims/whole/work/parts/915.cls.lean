/-! ===== the class (43): what the calls share ===== -/
def EV (n : Int) (h : HP) (I J : Nat → Int → Int) : Prop := LYB h ∧ OWN h ∧ CPL h I J ∧ INV n J
section EVF
variable {n : Int} {h : HP} {I J : Nat → Int → Int}
theorem ev_Y (E : EV n h I J) : LYB h := E.1
theorem ev_O (E : EV n h I J) : OWN h := E.2.1
theorem ev_C (E : EV n h I J) : CPL h I J := E.2.2.1
theorem ev_V (E : EV n h I J) : INV n J := E.2.2.2
theorem ly_S (Y : LYB h) : STA h := Y.1
theorem ly_10 (Y : LYB h) : LX 10 h 1 := Y.1.2.1.1
theorem ly_0 (Y : LYB h) : LX 0 h 2 := Y.1.2.1.2.1
theorem ly_74 (Y : LYB h) : LX 7 h 74 := Y.1.2.2.2.1.2.2.1
theorem ly_76 (Y : LYB h) : LX 9 h 76 := Y.1.2.2.2.1.2.2.2
theorem ly_81 (Y : LYB h) : LX 6 h 81 := Y.1.2.2.2.2.1
theorem ly_83 (Y : LYB h) : LX 2 h 83 := Y.1.2.2.2.2.2.1
theorem ly_94 (Y : LYB h) : LX 11 h 94 := Y.1.2.2.2.2.2.2
theorem ly_86 (Y : LYB h) : LX 7 h 86 := Y.2.1.1
theorem ly_88 (Y : LYB h) : LX 7 h 88 := Y.2.1.2
theorem ly_139 (Y : LYB h) : hK h 139 = (2, 1) := Y.2.2
theorem ly_8 {st : Nat} (Y : LYB h) (hst : st = 10 ∨ st = 42) : LX 8 h st := by
  obtain rfl | rfl := hst
  · exact Y.1.2.1.2.2.1
  · exact Y.1.2.1.2.2.2
theorem ly_3 {st : Nat} (Y : LYB h) (hst : st = 10 ∨ st = 42) : LX 3 h (st + 1) := by
  obtain rfl | rfl := hst
  · exact Y.1.2.2.1.1
  · exact Y.1.2.2.1.2.1
theorem ly_4 {st : Nat} (Y : LYB h) (hst : st = 10 ∨ st = 42) : LX 4 h (st + 7) := by
  obtain rfl | rfl := hst
  · exact Y.1.2.2.1.2.2.1
  · exact Y.1.2.2.1.2.2.2.2.1
theorem ly_4k {st : Nat} (Y : LYB h) (hst : st = 10 ∨ st = 42) : LX 4 h (st + 12) := by
  obtain rfl | rfl := hst
  · exact Y.1.2.2.1.2.2.2.1
  · exact Y.1.2.2.1.2.2.2.2.2
theorem ly_1 {st : Nat} (Y : LYB h) (hst : st = 10 ∨ st = 42) : LX 1 h (st + 21) := by
  obtain rfl | rfl := hst
  · exact Y.1.2.2.2.1.1
  · exact Y.1.2.2.2.1.2.1
theorem ev_B (E : EV n h I J) : BC I J := (ev_C E).1
theorem ev_s {s : Int} (E : EV n h I J) (hs : s = 0 ∨ s = 1) : CS h I J (sto s) s := CPL_s (ev_C E) hs
theorem ev_N {s : Int} (E : EV n h I J) (hs : s = 0 ∨ s = 1) : NC I J (sto s + 7) s := (DC_n.mp (ev_s E hs).1).2
theorem ev_75 (E : EV n h I J) : ∃ P, S1 P ∧ I 75 = ind P := (ev_C E).2.2.2.2.1.1
/-- the row of what is reached is free -/
theorem EV_75 {P : Int → Prop} (E : EV n h I J) (hP : S1 P) : EV n h (rowU I 75 (ind P)) J := by
  have r : ∀ c, c ≠ 75 → rowU I 75 (ind P) c = I c := fun c hc => rowU_ne hc
  have C := ev_C E
  refine ⟨E.1, E.2.1, ⟨?_, ?_, ⟨?_, ?_⟩, ?_, ⟨⟨P, hP, rowU_eq⟩, ?_, ?_⟩, ?_, ?_, ?_⟩, E.2.2.2⟩
  · rw [BC_I (I := I) (fun c hc => r c (by omega))]; exact C.1
  · unfold CD
    rw [r 1 (by decide), r 92 (by decide)]
    exact C.2.1
  · exact CS_I E.2.1 (Or.inl rfl) (fun c hc => r c (by omega)) C.2.2.1.1
  · exact CS_I E.2.1 (Or.inr rfl) (fun c hc => r c (by omega)) C.2.2.1.2
  · unfold CWl
    rw [r 76 (by decide), r 80 (by decide)]
    exact C.2.2.2.1
  · rw [r 87 (by decide)]; exact C.2.2.2.2.1.2.1
  · rw [r 89 (by decide)]; exact C.2.2.2.2.1.2.2
  · rw [r 84 (by decide), r 90 (by decide), r 91 (by decide)]; exact C.2.2.2.2.2.1
  · rw [r 78 (by decide)]; exact C.2.2.2.2.2.2.1
  · rw [r 79 (by decide)]; exact C.2.2.2.2.2.2.2
theorem SL_1 {P : Int → Prop} (E : EV n h I J) (hP : SL J P) : S1 P := fun j q => by have := hP j q; have := iv_t (ev_V E); omega
theorem k142 {s : Int} (Y : LYB h) (hs : s = 0 ∨ s = 1) : Go 142 0 [.inr (.inl (some 1)), .inl s] [] (mI h I) = some (mI h I, .inl (some (.inr (.inl (some ((sto s))))))) := by
  have L := ly_10 Y
  rw [b142_0]
  obtain rfl | rfl := hs
  · rw [if_pos rfl, b142_6, if_neg (fun t => t rfl), b142_8 L, b142_13]
    rfl
  · rw [if_neg (by decide), b142_2, if_pos rfl, b142_6, if_pos (by decide), b142_11 L, b142_13]
    rfl
theorem k142x {s : Int} (hs : ¬(s = 0 ∨ s = 1)) : Go 142 0 [.inr (.inl (some 1)), .inl s] [] (mI h I) = some (mI (hThr h) I, .inr 0) := by
  rw [b142_0, if_neg (fun t => hs (Or.inl t)), b142_2, if_neg (fun t => hs (Or.inr t)), b142_5]
theorem k143 {s : Int} (Y : LYB h) (hs : s = 0 ∨ s = 1) : Go 143 0 [.inr (.inl (some 1)), .inl s] [] (mI h I) = some (mI h I, .inl (some (.inr (.inl (some ((sto (1 - s)))))))) := by
  have L := ly_10 Y
  rw [b143_0]
  obtain rfl | rfl := hs
  · rw [if_neg (fun t => t rfl), b143_2 L, b143_7]
    rfl
  · rw [if_pos (by decide), b143_5 L, b143_7]
    rfl
theorem k144 {x : Int} {v2 : MV} (E : EV n h I J) (hx : 0 ≤ fnd J x) : Go 144 0 [.inr (.inl (some 1)), .inl x, v2] [] (mI h I) = some (mI h I, .inl (some (.inl (fnd J x)))) := by
  rw [b144_0 (ly_10 E.1) (ly_0 E.1), k2 (ly_0 E.1) (ev_B E) (iv_R (ev_V E)), caln_r, b144_4, if_pos (by omega), b144_9]
theorem k144x {x : Int} {v2 : MV} (E : EV n h I J) (hx : ¬0 ≤ fnd J x) : Go 144 0 [.inr (.inl (some 1)), .inl x, v2] [] (mI h I) = some (mI (hThr h) I, .inr 0) := by
  have := fnd_lt (I := J) (x := x) (iv_t (ev_V E)).1
  rw [b144_0 (ly_10 E.1) (ly_0 E.1), k2 (ly_0 E.1) (ev_B E) (iv_R (ev_V E)), caln_r, b144_4, if_neg (by omega), b144_8]
theorem fnd_n (V : INV n J) : fnd J (-1) = -1 := by
  have f := fnd_lt (I := J) (x := -1) (iv_t V).1
  by_cases c : 0 ≤ fnd J (-1)
  · have := WX_b (iv_X V) (iv_t V).1 c
    omega
  · omega
theorem k145 {x : Int} (E : EV n h I J) (hx : x = -1 ∨ 0 ≤ fnd J x) : Go 145 0 [.inr (.inl (some 1)), .inl x] [] (mI h I) = some (mI h I, .inl (some (.inl (fnd J x)))) := by
  rw [b145_0]
  by_cases c : x = -1
  · rw [if_neg (fun t => t c), b145_3, b145_8, c, fnd_n (ev_V E)]
  · rw [if_pos c, b145_5 (ly_10 E.1), k144 E (hx.resolve_left c), caln_r, b145_8]
theorem k145x {x : Int} (E : EV n h I J) (hx : ¬(x = -1 ∨ 0 ≤ fnd J x)) : Go 145 0 [.inr (.inl (some 1)), .inl x] [] (mI h I) = some (mI (hThr h) I, .inr 0) := by
  rw [b145_0, if_pos (fun t => hx (Or.inl t)), b145_5 (ly_10 E.1), k144x E (fun t => hx (Or.inr t)), caln_x]
theorem k146 {x : Int} (hx : 0 ≤ x ∧ x ≤ 5) : Go 146 0 [.inr (.inl (some 1)), .inl x] [] (mI h I) = some (mI h I, .inl none) := by
  rw [b146_0, if_neg (by omega), b146_2, if_pos (by omega), b146_6]
theorem k146x {x : Int} (hx : ¬(0 ≤ x ∧ x ≤ 5)) : Go 146 0 [.inr (.inl (some 1)), .inl x] [] (mI h I) = some (mI (hThr h) I, .inr 0) := by
  rw [b146_0]
  by_cases c : x < 0
  · rw [if_pos c, b146_5]
  · rw [if_neg c, b146_2, if_neg (by omega), b146_5]
theorem k149 {x : Int} (E : EV n h I J) : Go 149 0 [.inr (.inl (some 1)), .inl x] [] (mI h I) = some (mI h I, .inl (some (.inl (b01 (x = -1 ∨ kdO J x = 2))))) := by
  rw [b149_0]
  by_cases c : x = -1
  · rw [if_pos c, b149_9, b149_12 (Or.inr rfl), b01_t (Or.inl c)]
  · rw [if_neg c, b149_3 (ly_10 E.1) (ly_0 E.1), k3 (ly_0 E.1) (ev_B E) (iv_R (ev_V E)), caln_r, b149_7]
    by_cases d : kdO J x = 2
    · rw [if_neg (fun t => t d), b149_9, b149_12 (Or.inr rfl), b01_t (Or.inr d)]
    · rw [if_pos d, b149_11, b149_12 (Or.inl rfl), b01_f (fun t => t.elim c d)]
theorem k148 {x j : Int} (E : EV n h I J) (hx : 0 ≤ x ∧ x < J 94 0) (hj : 0 ≤ j ∧ j < J 96 x) : Go 148 0 [.inr (.inl (some 1)), .inl x, .inl j] [] (mI h I) = some (mI h I, .inl (some (.inl (J 97 (12 * x + j))))) := by
  have B := ev_B E
  have R := iv_R (ev_V E)
  rw [b148_0, if_neg (by omega), b148_2 (ly_10 E.1) (ly_0 E.1), k5 (ly_0 E.1) B R, caln_r, lnO_t hx, b148_7, if_pos hj.2, b148_9 (ly_10 E.1) (ly_0 E.1), k6 (ly_0 E.1) B R, caln_r, nuO_t hx hj, b148_14]
theorem k148x {x j : Int} (E : EV n h I J) (hx : 0 ≤ x ∧ x < J 94 0) (hj : ¬(0 ≤ j ∧ j < J 96 x)) : Go 148 0 [.inr (.inl (some 1)), .inl x, .inl j] [] (mI h I) = some (mI (hThr h) I, .inr 0) := by
  have B := ev_B E
  have R := iv_R (ev_V E)
  rw [b148_0]
  by_cases c : j < 0
  · rw [if_pos c, b148_8]
  · rw [if_neg c, b148_2 (ly_10 E.1) (ly_0 E.1), k5 (ly_0 E.1) B R, caln_r, lnO_t hx, b148_7, if_neg (by omega), b148_8]
theorem k154 {s x : Int} {v3 : MV} (E : EV n h I J) (hs : s = 0 ∨ s = 1) (hx : 0 ≤ x ∧ x < J 94 0) :
    Go 154 0 [.inr (.inl (some 1)), .inr (.inl (some ((sto s)))), .inl x, v3] [] (mI h I) = some (mI h (rowU I 75 (ind (Cl (Eg J s) (fun j => j = x)))), .inl (some (.inl (b01 (Wh J s x))))) := by
  have Y := E.1
  have V := ev_V E
  have R := iv_R V
  have T := iv_T V
  have hT := iv_t V
  obtain ⟨P, hP, e75⟩ := ev_75 E
  have L7 := ly_74 Y
  have L10 := ly_10 Y
  have st := sto_o (s := s)
  obtain ⟨C, hC⟩ : ∃ C, C = Cl (Eg J s) (fun j => j = x) := ⟨_, rfl⟩
  have Cr : SL J C := fun j q => by rw [hC] at q; exact Cl_lt R.1 (fun j q => by omega) j q
  have EC := EV_75 E (SL_1 E Cr)
  have DC1 := (ev_s EC hs).1
  have e1 : mI h I = mI h (rowU I 75 (ind P)) := by rw [← e75, rowU_id]
  have e71 : Go 71 0 [.inr (.inl (some 74)), vU] [] (mI h (rowU I 75 (ind P))) = some (mI h (rowU I 75 (ind (fun _ => False))), .inl none) := k71 (a := 74) L7 hP
  have e72 : Go 72 0 [.inr (.inl (some 74)), .inl x] [] (mI h (rowU I 75 (ind (fun _ => False)))) = some (mI h (rowU I 75 (ind (fun j => j = x))), .inl none) := by
    refine (k72 (a := 74) (I := I) (P := fun _ => False) (x := x) L7).trans ?_
    rw [ind_c (Q := fun j => j = x) (fun j => ⟨fun q => q.elim False.elim And.right, fun q => Or.inr ⟨by omega, q⟩⟩)]
  have e75b : Go 75 0 [.inr (.inl (some 74)), .inr (.inl (some ((sto s + 7)))), vU] [] (mI h (rowU I 75 (ind (fun j => j = x)))) = some (mI h (rowU I 75 (ind C)), .inl none) := by
    rw [hC]
    exact k75 (a := 74) (P := fun j => j = x) (s := s) (ly_0 Y) L7 (ly_4 Y st) (ev_B E) R (iv_Sh V) (ShC_N (ev_N E hs) hT.2) (by decide) (by omega) hs (fun j q => by omega)
  rw [b154_0 L10 L7, e1, e71, caln_v, b154_3 L10 L7, e72, caln_v, b154_7 L10 (ly_8 Y st) (ly_3 Y st) L7, e75b, caln_v, b154_13, ← hC]
  refine lpQ (fun k (_ : Unit) => Go 154 15 [.inr (.inl (some 1)), .inr (.inl (some ((sto s)))), .inl x, .inl k] [] (mI h (rowU I 75 (ind C)))) (fun k _ => ∀ j, C j → j < k → Th J s j ∨ J 117 (120 * s + j) ≠ 0) (fun r => r = some (mI h (rowU I 75 (ind C)), .inl (some (.inl (b01 (Wh J s x)))))) 0 (J 94 0) hT.1 ?_ ?_ () (fun j q hj => by have := Cr j q; omega)
  · intro k _ k0 k1 hq
    have e4 : rowU I 75 (ind C) 75 k = b01 (C k) := by rw [rowU_eq]; rfl
    have e27 : rowU I 75 (ind C) 2 7 = J 94 0 := by rw [rowU_ne (by decide)]; exact (ev_B E).1
    have go : (C k → Th J s k ∨ J 117 (120 * s + k) ≠ 0) → ∀ j, C j → j < k + 1 → Th J s j ∨ J 117 (120 * s + j) ≠ 0 := fun g j q hj => by
      by_cases c : j = k
      · subst c; exact g q
      · exact hq j q (by omega)
    rw [b154_15 L10 (ly_0 Y), e27, if_neg (by omega), b154_20 L10 L7 (by omega), e4]
    by_cases c : C k
    · rw [b01_t c, if_neg neg1_ne, b154_26 (ly_8 Y st) (ly_3 Y st), k39 (ly_3 Y st) (ly_4 Y st) DC1 (iv_M V) T.2.2.2.1 T.2.1 hs ⟨k0, by omega⟩, caln_r, b154_30]
      by_cases g : J 117 (120 * s + k) ≠ 0 ∨ Th J s k
      · right
        exact ⟨(), by rw [b01_t g, if_pos neg1_ne, b154_33 (by omega)], go (fun _ => g.symm)⟩
      · left
        rw [b01_f g, if_neg (fun t => t rfl), b154_31, b01_f (p := Wh J s x) (fun q => g ((q k (by rw [← hC]; exact c)).symm))]
    · right
      exact ⟨(), by rw [b01_f c, if_pos rfl, b154_33 (by omega)], go (fun q => absurd q c)⟩
  · intro _ hq
    have e27 : rowU I 75 (ind C) 2 7 = J 94 0 := by rw [rowU_ne (by decide)]; exact (ev_B E).1
    rw [b154_15 L10 (ly_0 Y), e27, if_pos (Int.le_refl _), b154_35, b01_t (p := Wh J s x) (fun j q => by rw [← hC] at q; exact hq j q (Cr j q).2)]
theorem k158 {s : Int} {v2 v3 : MV} (E : EV n h I J) (hs : s = 0 ∨ s = 1) :
    Go 158 0 [.inr (.inl (some 1)), .inr (.inl (some ((sto s)))), v2, v3] [] (mI h I) = some (mI h (rowU I 75 (ind (Mi J s))), .inl none) := by
  have Y := E.1
  have V := ev_V E
  have R := iv_R V
  have T := iv_T V
  have hT := iv_t V
  obtain ⟨P, hP, e75⟩ := ev_75 E
  have L7 := ly_74 Y
  have L10 := ly_10 Y
  have st := sto_o (s := s)
  obtain ⟨C, hC⟩ : ∃ C, C = Cl (Eg J s) (Rf J s) := ⟨_, rfl⟩
  have Rr : SL J (Rf J s) := fun j ⟨k, k0, k1, q0, q1⟩ => by
    have := iv_WR V k (by omega) (by omega)
    omega
  have Cr : SL J C := fun j q => by rw [hC] at q; exact Cl_lt R.1 Rr j q
  have e1 : mI h I = mI h (rowU I 75 (ind P)) := by rw [← e75, rowU_id]
  have e71 : Go 71 0 [.inr (.inl (some 74)), vU] [] (mI h (rowU I 75 (ind P))) = some (mI h (rowU I 75 (ind (fun _ => False))), .inl none) := k71 (a := 74) L7 hP
  have e85 : Go 85 0 [.inr (.inl (some ((sto s)))), .inr (.inl (some 74)), vU] [] (mI h (rowU I 75 (ind (fun _ => False)))) = some (mI h (rowU I 75 (ind (Rf J s))), .inl none) := by
    refine (k85 (a := 74) (P := fun _ => False) st (by decide) (ly_8 Y st) (ly_3 Y st) (ly_4 Y st) L7 (ev_N E hs) (iv_WR V) hT.2 hs).trans ?_
    rw [ind_c (P := fun j => False ∨ Rf J s j) (Q := Rf J s) (fun j => ⟨fun q => q.resolve_left id, Or.inr⟩)]
  have e75b : Go 75 0 [.inr (.inl (some 74)), .inr (.inl (some ((sto s + 7)))), vU] [] (mI h (rowU I 75 (ind (Rf J s)))) = some (mI h (rowU I 75 (ind C)), .inl none) := by
    rw [hC]
    exact k75 (a := 74) (P := Rf J s) (s := s) (ly_0 Y) L7 (ly_4 Y st) (ev_B E) R (iv_Sh V) (ShC_N (ev_N E hs) hT.2) (by decide) (by omega) hs Rr
  have key := lpE (fun k (w : MV) => Go 158 15 [.inr (.inl (some 1)), .inr (.inl (some ((sto s)))), .inl k, w] [] (mI h (rowU I 75 (ind (fun j => C j ∧ (j < k → Mi J s j)))))) (fun _ _ => True) 0 (J 94 0) hT.1 ?_ v3 trivial
  · obtain ⟨w, e, _⟩ := key
    rw [b158_0 L10 L7, e1, e71, caln_v, b158_3 L10 (ly_8 Y st), e85, caln_v, b158_7 L10 (ly_8 Y st) (ly_3 Y st) L7, e75b, caln_v, b158_13, ind_c (P := C) (Q := fun j => C j ∧ (j < 0 → Mi J s j)) (fun j => ⟨fun q => ⟨q, fun t => by have := Cr j q; omega⟩, And.left⟩), e, b158_15 L10 (ly_0 Y), rowU_ne (by decide), (ev_B E).1, if_pos (Int.le_refl _), b158_59]
    rw [ind_c (fun j => ⟨fun q => q.2 (Cr j q.1).2, fun q => ⟨by rw [hC]; exact q.1, fun _ => q⟩⟩)]
  · intro k w k0 k1 _
    obtain ⟨Q, hQ⟩ : ∃ Q : Int → Prop, Q = fun j => C j ∧ (j < k → Mi J s j) := ⟨_, rfl⟩
    have EQ := EV_75 (P := Q) E (SL_1 E (fun j q => by rw [hQ] at q; exact Cr j q.1))
    have DQ := (ev_s EQ hs).1
    have NQ := ev_N EQ hs
    have e27 : rowU I 75 (ind Q) 2 7 = J 94 0 := (ev_B EQ).1
    have e11 : rowU I 75 (ind Q) (sto s + 11) k = J 117 (120 * s + k) := (NQ.2.2 k k0 (by omega)).2.2
    have e75 : rowU I 75 (ind Q) 75 k = b01 (C k) := by
      rw [rowU_eq, hQ]
      exact b01_c ⟨And.left, fun q => ⟨q, fun t => absurd t (by omega)⟩⟩
    obtain ⟨po, hpo⟩ : ∃ po : Prop, po = (J 117 (120 * s + k) ≠ 0 ∧ ¬Th J s k) := ⟨_, rfl⟩
    have s1 : Go 158 20 [.inr (.inl (some 1)), .inr (.inl (some ((sto s)))), .inl k, w] [] (mI h (rowU I 75 (ind Q))) = Go 158 35 [.inr (.inl (some 1)), .inr (.inl (some ((sto s)))), .inl k, w] [.inl (b01 po)] (mI h (rowU I 75 (ind Q))) := by
      rw [b158_20 (ly_8 Y st) (ly_3 Y st) (ly_4 Y st) (by omega), e11]
      by_cases c : J 117 (120 * s + k) = 0
      · rw [if_pos c, b158_34, b01_f (p := po) (by rw [hpo]; exact fun t => t.1 c)]
      · rw [if_neg c, b158_27 (ly_8 Y st) (ly_3 Y st), k37 (ly_3 Y st) DQ (iv_M V) T.2.2.2.1 T.2.1 hs ⟨k0, by omega⟩, caln_r, b158_31]
        by_cases d : Th J s k
        · rw [b01_t d, if_pos neg1_ne, b158_34, b01_f (p := po) (by rw [hpo]; exact fun t => t.2 d)]
        · rw [b01_f d, if_neg (fun t => t rfl), b158_32, b01_t (p := po) (by rw [hpo]; exact ⟨c, d⟩)]
    have mi : Mi J s k ↔ C k ∧ ¬po ∧ ¬Gd J s k := by
      rw [hpo, hC]
      unfold Mi
      constructor
      · rintro ⟨q1, q2, q3⟩
        exact ⟨q1, fun t => q3.elim t.2 t.1, q2⟩
      · rintro ⟨q1, q2, q3⟩
        exact ⟨q1, q3, Classical.byContradiction fun t => q2 ⟨fun r => t (Or.inr r), fun r => t (Or.inl r)⟩⟩
    have fin : ∀ (z : Int) (p : Int), p = b01 (Mi J s k) → ∃ x1, Go 158 56 [.inr (.inl (some 1)), .inr (.inl (some ((sto s)))), .inl k, .inl z] [.inl p, .inl k, .inr (.inl (some 75))] (mI h (rowU I 75 (ind Q))) = Go 158 15 [.inr (.inl (some 1)), .inr (.inl (some ((sto s)))), .inl (k + 1), x1] [] (mI h (rowU I 75 (ind (fun j => C j ∧ (j < k + 1 → Mi J s j))))) ∧ True := fun z p hp => by
      refine ⟨.inl z, ?_, trivial⟩
      rw [b158_56 L7 (by omega) (by rw [hp]; exact b01_or _) (by omega), zu2_row, rowU_tw, rowU_eq]
      have : up1 (ind Q) k p = ind (fun j => C j ∧ (j < k + 1 → Mi J s j)) := by
        refine funext (fun j => ?_)
        by_cases c : j = k
        · subst c
          rw [up1_eq, hp]
          exact b01_c ⟨fun q => ⟨(mi.mp q).1, fun _ => q⟩, fun q => q.2 (by omega)⟩
        · rw [up1_ne c, hQ]
          exact b01_c ⟨fun q => ⟨q.1, fun t => q.2 (by omega)⟩, fun q => ⟨q.1, fun t => q.2 (by omega)⟩⟩
      rw [this]
    rw [← hQ, b158_15 L10 (ly_0 Y), e27, if_neg (by omega), s1, b158_35 L10 L7 (by omega), e75]
    by_cases c : C k
    · rw [b01_t c, if_neg neg1_ne, b158_46]
      by_cases d : po
      · rw [b01_t d, if_pos neg1_ne, b158_55]
        exact fin 1 0 (by rw [b01_f (p := Mi J s k) (fun q => (mi.mp q).2.1 d)])
      · rw [b01_f d, if_neg (fun t => t rfl), b158_48 (ly_8 Y st) (ly_3 Y st), k38 (ly_3 Y st) DQ (iv_M V) T.2.2.2.1 (iv_P V) T.2.1 hs ⟨k0, by omega⟩, caln_r, b158_52]
        by_cases g : Gd J s k
        · rw [b01_t g, if_pos neg1_ne, b158_55]
          exact fin 0 0 (by rw [b01_f (p := Mi J s k) (fun q => (mi.mp q).2.2 g)])
        · rw [b01_f g, if_neg (fun t => t rfl), b158_53]
          exact fin 0 1 (by rw [b01_t (p := Mi J s k) (mi.mpr ⟨c, d, g⟩)])
    · rw [b01_f c, if_pos rfl, b158_55]
      exact fin (b01 po) 0 (by rw [b01_f (p := Mi J s k) (fun q => c (mi.mp q).1)])
end EVF
