/-! ===== the class (6): by rounds, by what is chosen ===== -/
theorem k77 {h : HP} {I J : Nat → Int → Int} {a n : Nat} {P : Int → Prop} {s : Int} {v2 v3 v4 v5 : MV} (L0 : LX 0 h 2) (L : LX 7 h a) (Ln : LX 4 h n) (B : BC I J) (R : RB J) (Sh : WSh J) (hC : ShC I J n s) (ha : 9 < a) (hn : n + 3 ≠ a + 1) (hs : s = 0 ∨ s = 1) (hP : ∀ j, P j → 0 ≤ j ∧ j < J 94 0) :
    Go 77 0 [.inr (.inl (some a)), .inr (.inl (some n)), v2, v3, v4, v5] [] (mI h (rowU I (a + 1) (ind P))) = some (mI h (rowU I (a + 1) (ind (Cl (Eg J s) P))), .inl none) := by
  have hT := R.1.1
  have hC2 := Cl_lt R.1 (s := s) hP
  have hcl : ∀ Q : Int → Prop, (∀ j, P j → Q j) → (∀ j, Q j → Cl (Eg J s) P j) → (∀ x, Q x → ∀ b, Eg J s x b → Q b) → Q = Cl (Eg J s) P := fun Q q1 q2 q3 => funext (fun j => propext ⟨q2 j, fun c => Cl_ind (P := Q) c q1 (fun x b hx eb => q3 x hx b eb)⟩)
  rw [b77_0 L, k73 L rowU_eq, caln_r, b77_4]
  refine lpQ (fun r (x : (Int → Prop) × Int × MV) => Go 77 7 [.inr (.inl (some a)), .inr (.inl (some n)), .inl x.2.1, .inl (cN x.1 100), .inl r, x.2.2] [] (mI h (rowU I (a + 1) (ind x.1))))
    (fun r x => ((∀ j, P j → x.1 j) ∧ ∀ j, x.1 j → Cl (Eg J s) P j) ∧ (((∀ y, x.1 y → ∀ b, Eg J s y b → x.1 b) ∧ x.2.1 = cN x.1 100) ∨ (x.2.1 ≠ cN x.1 100 ∧ r ≤ cN x.1 100)))
    (fun r => r = some (mI h (rowU I (a + 1) (ind (Cl (Eg J s) P))), .inl none)) 0 101 (by omega) ?_ ?_ (P, -1, v5) ⟨⟨fun _ q => q, fun _ q => Cl_base q⟩, Or.inr ⟨by have := cN_b (P := P) 100; dsimp only; omega, (cN_b (P := P) 100).1⟩⟩
  · rintro r ⟨Q, bf, w⟩ r0 r1 ⟨⟨q1, q2⟩, q3⟩
    dsimp only at q1 q2 q3 ⊢
    obtain ⟨c1, c2⟩ | ⟨c1, c2⟩ := q3
    · left
      rw [b77_7, if_neg (by omega), b77_10, if_pos c2, b77_38, hcl Q q1 q2 c1]
    · right
      have key := lpE (fun k (Y : Int → Prop) => Go 77 15 [.inr (.inl (some a)), .inr (.inl (some n)), .inl bf, .inl (cN Q 100), .inl r, .inl k] [] (mI h (rowU I (a + 1) (ind Y)))) (fun k Y => (∀ j, Q j → Y j) ∧ (∀ j, Y j → Cl (Eg J s) P j) ∧ ∀ x, 0 ≤ x → x < k → Q x → ∀ b, Eg J s x b → Y b) 0 (J 94 0) hT.1 ?_ Q ⟨fun _ q => q, q2, fun x x0 x1 => by omega⟩
      · obtain ⟨Y, e, y1, y2, y3⟩ := key
        have hb := cN_b (P := Q) 100
        have e27 : rowU I (a + 1) (ind Y) 2 7 = J 94 0 := by rw [rowU_ne (by omega), B.1]
        refine ⟨(Y, cN Q 100, .inl (J 94 0)), ?_, ⟨fun j q => y1 j (q1 j q), y2⟩, ?_⟩
        · rw [b77_7, if_neg (by omega), b77_10, if_neg c1, b77_13, e, b77_15 L L0, e27, if_pos (Int.le_refl _), b77_31 L, k73 L rowU_eq, caln_r, b77_35 (by omega)]
        · dsimp only
          have hle := cN_le (P := Q) (Q := Y) 100 (fun k _ _ q => y1 k q)
          by_cases hy : ∀ j, Y j → Q j
          · left
            have eY : Y = Q := funext (fun j => propext ⟨hy j, y1 j⟩)
            subst eY
            exact ⟨fun x hx b eb => y3 x (hC2 x (q2 x hx)).1 (hC2 x (q2 x hx)).2 hx b eb, rfl⟩
          · right
            obtain ⟨j, hj⟩ := Classical.not_forall.mp hy
            obtain ⟨hj1, hj2⟩ := Classical.not_imp.mp hj
            have hjr := hC2 j (y2 j hj1)
            have hlt := cN_lt (P := Q) (Q := Y) hjr.1 hj1 hj2 100 (by omega) (fun k _ _ q => y1 k q)
            exact ⟨by omega, by omega⟩
      · intro k Y k0 k1 ⟨y1, y2, y3⟩
        have e27 : rowU I (a + 1) (ind Y) 2 7 = J 94 0 := by rw [rowU_ne (by omega), B.1]
        rw [b77_15 L L0, e27, if_neg (by omega), b77_20 L (by omega), rowU_eq]
        by_cases hq : Y k
        · refine ⟨fun j => Y j ∨ Eg J s k j, ?_, fun j q => Or.inl (y1 j q), fun j q => q.elim (y2 j) (fun q => Cl_step (y2 _ hq) q), fun x x0 x1 hx b eb => ?_⟩
          · rw [if_neg (by rw [ind_at]; exact fun q => q hq), b77_25 L, k74 L0 L Ln B R Sh hC ha hn hs ⟨k0, k1⟩, caln_v, b77_29 (by omega)]
          · by_cases hxe : x = k
            · subst hxe; exact Or.inr eb
            · exact Or.inl (y3 x x0 (by omega) hx b eb)
        · refine ⟨Y, ?_, y1, y2, fun x x0 x1 hx b eb => ?_⟩
          · rw [if_pos (by rw [ind_at]; exact hq), b77_29 (by omega)]
          · by_cases hxe : x = k
            · subst hxe; exact absurd (y1 _ hx) hq
            · exact y3 x x0 (by omega) hx b eb
  · rintro ⟨Q, bf, w⟩ ⟨⟨q1, q2⟩, q3⟩
    dsimp only at q1 q2 q3 ⊢
    obtain ⟨c1, c2⟩ | ⟨c1, c2⟩ := q3
    · rw [b77_7, if_pos (by decide), b77_38, hcl Q q1 q2 c1]
    · have := cN_b (P := Q) 100
      omega
/-- what is chosen -/
def CC (I J : Nat → Int → Int) (c : Nat) (s : Int) : Prop := (I c 2 = chN J s ∧ 0 ≤ I c 2 ∧ I c 2 ≤ 4) ∧ (∀ k, 0 ≤ k → k < I c 2 → (0 ≤ I (c + 1) k ∧ I (c + 1) k < J 94 0) ∧ J 128 (120 * s + I (c + 1) k) ≠ 0) ∧
  (∀ o, 0 ≤ o → o < 120 → J 128 (120 * s + o) ≠ 0 → ∃ k, (0 ≤ k ∧ k < I c 2) ∧ I (c + 1) k = o) ∧ ∀ k j, 0 ≤ k → k < I c 2 → 0 ≤ j → j < 100 → I (c + 2) (k * 100 + j) = b01 (Cl (Eg J s) (fun z => z = I (c + 1) k) j)
theorem k20 {h : HP} {I : Nat → Int → Int} {c : Nat} {x : Int} {v2 : MV} (L : LX 1 h c) (hn : 0 ≤ I c 2 ∧ I c 2 ≤ 4) : ∃ k, Go 20 0 [.inr (.inl (some c)), .inl x, v2] [] (mI h I) = some (mI h I, .inl (some (.inl k))) ∧ ((k = -1 ∧ ∀ i, 0 ≤ i → i < I c 2 → I (c + 1) i ≠ x) ∨ ((0 ≤ k ∧ k < I c 2) ∧ I (c + 1) k = x)) := by
  rw [b20_0]
  refine lpQ (fun k (_ : Unit) => Go 20 2 [.inr (.inl (some c)), .inl x, .inl k] [] (mI h I)) (fun k _ => ∀ i, 0 ≤ i → i < k → I (c + 1) i ≠ x) (fun r => ∃ k, r = some (mI h I, .inl (some (.inl k))) ∧ ((k = -1 ∧ ∀ i, 0 ≤ i → i < I c 2 → I (c + 1) i ≠ x) ∨ ((0 ≤ k ∧ k < I c 2) ∧ I (c + 1) k = x))) 0 (I c 2) hn.1 ?_ ?_ () (fun i a b => by omega)
  · intro k _ k0 k1 hk
    by_cases e : I (c + 1) k = x
    · left
      exact ⟨k, by rw [b20_2 L, if_neg (by omega), b20_6 L (by omega), if_neg (fun q => q e), b20_12], Or.inr ⟨⟨k0, k1⟩, e⟩⟩
    · right
      refine ⟨(), by rw [b20_2 L, if_neg (by omega), b20_6 L (by omega), if_pos e, b20_14 (by omega)], fun i a b => ?_⟩
      by_cases hi : i = k
      · subst hi; exact e
      · exact hk i a (by omega)
  · intro _ hk
    exact ⟨-1, by rw [b20_2 L, if_pos (Int.le_refl _), b20_16], Or.inl ⟨rfl, hk⟩⟩
theorem Cl_le {J : Nat → Int → Int} (W : WB J) {s a : Int} (ha : 0 ≤ a ∧ a < J 94 0) : ∀ j, Cl (Eg J s) (fun z => z = a) j → 0 ≤ j ∧ j ≤ a := fun j c => Cl_ind (P := fun j => 0 ≤ j ∧ j ≤ a) c (fun z q => by omega) (fun x b hx e => by have := Eg_lt W (by omega) e; omega)
theorem CC_U {I J : Nat → Int → Int} {c a : Nat} {f : Int → Int} {s : Int} (h : a < c ∨ c + 2 < a) : CC (rowU I a f) J c s = CC I J c s := by
  unfold CC
  rw [rowU_ne (by omega), rowU_ne (by omega), rowU_ne (by omega)]
theorem k22 {h : HP} {I J : Nat → Int → Int} {c a : Nat} {s x : Int} {P : Int → Prop} {v3 v4 : MV} (L : LX 1 h c) (La : hK h a = (1, 100)) (hc : a < c ∨ c + 2 < a) (C : CC I J c s) (W : WB J) :
    (∃ k, I (c + 1) k = x ∧ (0 ≤ k ∧ k < I c 2) ∧ Go 22 0 [.inr (.inl (some c)), .inl x, .inr (.inl (some a)), v3, v4] [] (mI h (rowU I a (ind P))) = some (mI h (rowU I a (ind (fun j => P j ∨ Cl (Eg J s) (fun z => z = x) j))), .inl (some (.inl 1)))) ∨
    ((∀ i, 0 ≤ i → i < I c 2 → I (c + 1) i ≠ x) ∧ Go 22 0 [.inr (.inl (some c)), .inl x, .inr (.inl (some a)), v3, v4] [] (mI h (rowU I a (ind P))) = some (mI h (rowU I a (ind P)), .inl (some (.inl 0)))) := by
  have hT := W.1
  have C2 : CC (rowU I a (ind P)) J c s := by rw [CC_U hc]; exact C
  have e2 : rowU I a (ind P) c = I c := rowU_ne (by omega)
  have e3 : rowU I a (ind P) (c + 1) = I (c + 1) := rowU_ne (by omega)
  obtain ⟨k, e, q⟩ := k20 (h := h) (I := rowU I a (ind P)) (c := c) (x := x) (v2 := vU) L C2.1.2
  rw [e2, e3] at q
  obtain ⟨q1, q2⟩ | ⟨q1, q2⟩ := q
  · right
    refine ⟨q2, ?_⟩
    rw [b22_0 L, e, caln_r, b22_3, if_neg (fun r => r q1), b22_7]
  · left
    refine ⟨k, q2, q1, ?_⟩
    have hone := (C.2.1 k q1.1 q1.2).1
    have hCl : ∀ j, Cl (Eg J s) (fun z => z = x) j → 0 ≤ j ∧ j < 100 := fun j q => by
      rw [q2] at hone
      have := Cl_le W (s := s) hone j q
      omega
    rw [b22_0 L, e, caln_r, b22_3, if_pos (by omega), b22_9]
    have key := lpU (fun i => Go 22 11 [.inr (.inl (some c)), .inl x, .inr (.inl (some a)), .inl k, .inl i] [] (mI h (rowU I a (ind (fun j => P j ∨ (j < i ∧ Cl (Eg J s) (fun z => z = x) j)))))) 0 100 (by omega) ?_
    · rw [ind_c (P := fun j => P j ∨ (j < 0 ∧ Cl (Eg J s) (fun z => z = x) j)) (Q := P) (fun j => ⟨fun q => q.elim id (fun q => by have := hCl j q.2; omega), Or.inl⟩), ind_c (P := fun j => P j ∨ (j < 100 ∧ Cl (Eg J s) (fun z => z = x) j)) (Q := fun j => P j ∨ Cl (Eg J s) (fun z => z = x) j) (fun j => ⟨fun q => q.imp id And.right, fun q => q.imp id (fun q => ⟨(hCl j q).2, q⟩)⟩)] at key
      rw [key, b22_11, if_pos (by decide), b22_39]
    · intro i i0 i1
      have hk4 := C.1.2.2
      have ek := C.2.2.2 k i q1.1 q1.2 i0 i1
      rw [q2] at ek
      have fin : ∀ (w : Int) (q : Prop), w = b01 q → (q ↔ (P i ∨ Cl (Eg J s) (fun z => z = x) i)) → Go 22 36 [.inr (.inl (some c)), .inl x, .inr (.inl (some a)), .inl k, .inl i] [.inl w, .inl i, .inr (.inl (some a))] (mI h (rowU I a (ind (fun j => P j ∨ (j < i ∧ Cl (Eg J s) (fun z => z = x) j))))) = Go 22 11 [.inr (.inl (some c)), .inl x, .inr (.inl (some a)), .inl k, .inl (i + 1)] [] (mI h (rowU I a (ind (fun j => P j ∨ (j < i + 1 ∧ Cl (Eg J s) (fun z => z = x) j))))) := by
        intro w q hw hq
        rw [b22_36 La (by omega) (by rw [hw]; exact b01_or _) (by omega), zu2_row, rowU_tw, rowU_eq, hw]
        congr 3
        congr 1
        funext j
        unfold up1
        by_cases hj : j = i
        · subst hj
          rw [if_pos rfl]
          exact b01_c ⟨fun r => (hq.mp r).imp id (fun r => ⟨by omega, r⟩), fun r => hq.mpr (r.imp id And.right)⟩
        · rw [if_neg hj]
          exact b01_c ⟨fun r => r.imp id (fun r => ⟨by omega, r.2⟩), fun r => r.imp id (fun r => ⟨by omega, r.2⟩)⟩
      have ePi : rowU I a (ind (fun j => P j ∨ (j < i ∧ Cl (Eg J s) (fun z => z = x) j))) a i = b01 (P i) := by
        rw [rowU_eq]
        exact b01_c ⟨fun r => r.elim id (fun r => by omega), Or.inl⟩
      rw [b22_11, if_neg (by omega), b22_14 La, if_neg (by omega), b22_18 La (by omega), ePi]
      by_cases hp : P i
      · rw [b01_t hp, if_pos neg1_ne, b22_33, fin 1 True (b01_t trivial).symm ⟨fun _ => Or.inl hp, fun _ => trivial⟩]
      · rw [b01_f hp, if_neg (fun r => r rfl), b22_24 L (by omega) (by omega) (by omega), rowU_ne (by omega), ek]
        by_cases hcl : Cl (Eg J s) (fun z => z = x) i
        · rw [b01_t hcl, if_neg neg1_ne, b22_33, fin 1 True (b01_t trivial).symm ⟨fun _ => Or.inr hcl, fun _ => trivial⟩]
        · rw [b01_f hcl, if_pos rfl, b22_35, fin 0 False (b01_f (fun r => r)).symm ⟨False.elim, fun r => r.elim hp hcl⟩]
theorem k76 {h : HP} {I J : Nat → Int → Int} {a n c : Nat} {P : Int → Prop} {s : Int} {v3 : MV} (L0 : LX 0 h 2) (L : LX 7 h a) (Ln : LX 4 h n) (Lc : LX 1 h c) (B : BC I J) (R : RB J) (Sh : WSh J) (hC : ShC I J n s) (C : CC I J c s) (ha : 9 < a) (hn : n + 3 ≠ a + 1) (hc : a + 1 < c ∨ c + 2 < a + 1) (hs : s = 0 ∨ s = 1) (hP : ∀ j, P j → 0 ≤ j ∧ j < J 94 0) :
    Go 76 0 [.inr (.inl (some a)), .inr (.inl (some n)), .inr (.inl (some c)), v3] [] (mI h (rowU I (a + 1) (ind P))) = some (mI h (rowU I (a + 1) (ind (Cl (Eg J s) P))), .inl none) := by
  have hT := R.1.1
  obtain ⟨T, hTT⟩ : ∃ T, T = J 94 0 := ⟨_, rfl⟩
  have e27 : ∀ f : Int → Int, rowU I (a + 1) f 2 7 = T := fun f => by rw [rowU_ne (by omega), B.1, hTT]
  have La : hK h (a + 1) = (1, 100) := LX_k L 1 false 1 1 100 (by decide)
  rw [b76_0 L L0 (by rw [e27]; omega), e27]
  have key := lpE (fun k (Q : Int → Prop) => Go 76 6 [.inr (.inl (some a)), .inr (.inl (some n)), .inr (.inl (some c)), .inl (T - 1 - k)] [] (mI h (rowU I (a + 1) (ind Q)))) (fun k Q => (∀ j, P j → Q j) ∧ (∀ j, Q j → Cl (Eg J s) P j) ∧ ∀ x, T - 1 - k < x → x < T → Q x → ∀ b, Eg J s x b → Q b) 0 T (by omega) ?_ P ⟨fun _ q => q, fun _ q => Cl_base q, fun x a b => by omega⟩
  · obtain ⟨Q, e, q1, q2, q3⟩ := key
    have hC2 := Cl_lt R.1 (s := s) hP
    have eQ : Q = Cl (Eg J s) P := funext (fun j => propext ⟨q2 j, fun c => Cl_ind (P := Q) c q1 (fun x b hx eb => by
      have := hC2 x (q2 x hx)
      exact q3 x (by omega) (by omega) hx b eb)⟩)
    rw [show T - 1 = T - 1 - 0 by omega, e, b76_6, if_pos (by omega), b76_25, eQ]
  · intro k Q k0 k1 ⟨q1, q2, q3⟩
    have hx : 0 ≤ T - 1 - k ∧ T - 1 - k < J 94 0 := by omega
    rw [b76_6, if_neg (by omega), b76_8 L (by omega), rowU_eq]
    by_cases hq : Q (T - 1 - k)
    · rw [if_neg (by rw [ind_at]; exact fun q => q hq), b76_13 L Lc]
      obtain ⟨k2, _, _, e⟩ | ⟨_, e⟩ := k22 (h := h) (I := I) (J := J) (c := c) (a := a + 1) (s := s) (x := T - 1 - k) (P := Q) (v3 := vU) (v4 := vU) Lc La hc C R.1
      · refine ⟨fun j => Q j ∨ Cl (Eg J s) (fun z => z = T - 1 - k) j, ?_, fun j q => Or.inl (q1 j q), fun j q => q.elim (q2 j) (fun q => Cl_ind (P := Cl (Eg J s) P) q (fun z qz => by rw [qz]; exact q2 _ hq) (fun x b hx2 eb => Cl_step hx2 eb)), fun x x0 x1 hx2 b eb => ?_⟩
        · rw [e, caln_r, b76_18, if_pos neg1_ne, b76_23 (by omega), show T - 1 - k + -1 = T - 1 - (k + 1) by omega]
        · by_cases hxe : x = T - 1 - k
          · subst hxe; exact Or.inr (Cl_step (Cl_base rfl) eb)
          · obtain hx2 | hx2 := hx2
            · exact Or.inl (q3 x (by omega) x1 hx2 b eb)
            · have := Cl_le R.1 hx x hx2
              omega
      · refine ⟨fun j => Q j ∨ Eg J s (T - 1 - k) j, ?_, fun j q => Or.inl (q1 j q), fun j q => q.elim (q2 j) (fun q => Cl_step (q2 _ hq) q), fun x x0 x1 hx2 b eb => ?_⟩
        · rw [e, caln_r, b76_18, if_neg (fun q => q rfl), b76_19 L, k74 L0 L Ln B R Sh hC ha hn hs hx, caln_v, b76_23 (by omega), show T - 1 - k + -1 = T - 1 - (k + 1) by omega]
        · by_cases hxe : x = T - 1 - k
          · subst hxe; exact Or.inr eb
          · obtain hx2 | hx2 := hx2
            · exact Or.inl (q3 x (by omega) x1 hx2 b eb)
            · have := Eg_lt R.1 hx hx2
              omega
    · refine ⟨Q, ?_, q1, q2, fun x x0 x1 hx2 b eb => ?_⟩
      · rw [if_pos (by rw [ind_at]; exact hq), b76_23 (by omega), show T - 1 - k + -1 = T - 1 - (k + 1) by omega]
      · by_cases hxe : x = T - 1 - k
        · subst hxe; exact absurd hx2 hq
        · exact q3 x (by omega) x1 hx2 b eb
/-- the class keeps what a version leads to -/
theorem k21 {h : HP} {I J : Nat → Int → Int} {c a : Nat} {s x : Int} {v3 : MV} (L : LX 1 h c) (La : hK h a = (1, 100)) (hc : a < c ∨ c + 2 < a) (C : CC I J c s) (W : WB J) (hn : I c 2 < 4) (hx : 0 ≤ x ∧ x < J 94 0) (hx2 : J 128 (120 * s + x) = 0) (ha : I a = ind (Cl (Eg J s) (fun z => z = x))) (hs : s = 0 ∨ s = 1) :
    ∃ I1, Go 21 0 [.inr (.inl (some c)), .inl x, .inr (.inl (some a)), v3] [] (mI h I) = some (mI h I1, .inl none) ∧ (∀ b, b < c ∨ c + 2 < b → I1 b = I b) ∧ CC I1 (chJ J s x) c s ∧ I1 c 2 = I c 2 + 1 := by
  have hT := W.1
  have h0 := C.1.2.1
  obtain ⟨n, hnn⟩ : ∃ n, n = I c 2 := ⟨_, rfl⟩
  rw [← hnn] at hn h0
  obtain ⟨K, hK⟩ : ∃ K : Int → Prop, K = Cl (Eg J s) (fun z => z = x) := ⟨_, rfl⟩
  rw [← hK] at ha
  obtain ⟨I1, hI1⟩ : ∃ I1, I1 = rowU (rowU (rowU I (c + 1) (up1 (I (c + 1)) n x)) (c + 2) (fillR (I (c + 2)) (n * 100) (n * 100 + 100) (fun j => b01 (K (j - n * 100))))) c (up1 (I c) 2 (n + 1)) := ⟨_, rfl⟩
  have I1c : I1 c = up1 (I c) 2 (n + 1) := by rw [hI1, rowU_eq]
  have I1o : I1 (c + 1) = up1 (I (c + 1)) n x := by rw [hI1, rowU_ne (by omega), rowU_ne (by omega), rowU_eq]
  have I1k : I1 (c + 2) = fillR (I (c + 2)) (n * 100) (n * 100 + 100) (fun j => b01 (K (j - n * 100))) := by rw [hI1, rowU_ne (by omega), rowU_eq]
  have e128 : ∀ j, chJ J s x 128 j = up1 (J 128) (120 * s + x) 1 j := fun j => by unfold chJ; rw [rowU_eq]
  have eEg : Eg (chJ J s x) = Eg J := by unfold chJ; exact Eg_U (by decide) (by decide)
  have e94 : chJ J s x 94 = J 94 := by unfold chJ; exact rowU_ne (by decide)
  have echN : chN (chJ J s x) s = chN J s + 1 := by
    have q := cN_m (P := fun i => chJ J s x 128 (120 * s + i) ≠ 0) (b := x) hx.1 (by rw [e128, up1_eq]; decide) 120 (by omega)
    have q2 : cN (fun k => chJ J s x 128 (120 * s + k) ≠ 0 ∧ k ≠ x) 120 = cN (fun i => J 128 (120 * s + i) ≠ 0) 120 := cN_c _ (fun k _ _ => by
      rw [e128]
      by_cases hk : k = x
      · subst hk; rw [up1_eq]; exact ⟨fun q => absurd rfl q.2, fun q => absurd hx2 q⟩
      · rw [up1_ne (by omega)]; exact ⟨And.left, fun q => ⟨q, hk⟩⟩)
    unfold chN
    omega
  refine ⟨I1, ?_, fun b hb => ?_, ⟨⟨?_, ?_, ?_⟩, fun k k0 k1 => ?_, fun o o0 o1 ho => ?_, fun k j k0 k1 j0 j1 => ?_⟩, ?_⟩
  · rw [b21_0 L, ← hnn, if_pos hn, b21_5 L (by rw [← hnn]; omega), ← hnn]
    have key := lpU (fun k => Go 21 13 [.inr (.inl (some c)), .inl x, .inr (.inl (some a)), .inl k] [] (mI h (rowU (rowU I (c + 1) (up1 (I (c + 1)) n x)) (c + 2) (fillR (I (c + 2)) (n * 100) (n * 100 + k) (fun j => b01 (K (j - n * 100))))))) 0 100 (by omega) ?_
    · rw [fillR_0 (by omega)] at key
      have e0 : zu2 I (c + 1) n x = rowU (rowU I (c + 1) (up1 (I (c + 1)) n x)) (c + 2) (I (c + 2)) := by
        have := rowU_id (rowU I (c + 1) (up1 (I (c + 1)) n x)) (c + 2)
        rw [rowU_ne (by omega)] at this
        rw [this, zu2_row]
      have ec : ∀ f : Int → Int, rowU (rowU I (c + 1) (up1 (I (c + 1)) n x)) (c + 2) f c = I c := fun f => by rw [rowU_ne (by omega), rowU_ne (by omega)]
      rw [e0, key, b21_13, if_pos (by decide), b21_34 L (by rw [ec]; omega), ec, ← hnn, zu2_row, ec, hI1]
    · intro k k0 k1
      have ec : ∀ f : Int → Int, rowU (rowU I (c + 1) (up1 (I (c + 1)) n x)) (c + 2) f c 2 = n := fun f => by rw [rowU_ne (by omega), rowU_ne (by omega), hnn]
      have ea : ∀ f : Int → Int, rowU (rowU I (c + 1) (up1 (I (c + 1)) n x)) (c + 2) f a k = b01 (K k) := fun f => by rw [rowU_ne (by omega), rowU_ne (by omega), ha]; rfl
      rw [b21_13, if_neg (by omega), b21_16 La, if_neg (by omega), b21_20 L (by rw [ec]; omega) (by rw [ec]; omega) La (by omega) (by rw [ec]; omega) (by rw [ea]; exact b01_or _) (by omega), ec, ea, zu2_row, rowU_tw, rowU_eq, fillR_s (by omega) (by rw [show n * 100 + k - n * 100 = k by omega]), Int.add_assoc]
  · rw [hI1, rowU_ne (by omega), rowU_ne (by omega), rowU_ne (by omega)]
  · rw [I1c, up1_eq, echN, ← C.1.1, hnn]
  · rw [I1c, up1_eq]; omega
  · rw [I1c, up1_eq]; omega
  · rw [I1c, up1_eq] at k1
    rw [I1o, e94, e128]
    by_cases hk : k = n
    · subst hk
      rw [up1_eq, up1_eq]
      exact ⟨hx, by decide⟩
    · have q := C.2.1 k k0 (by omega)
      rw [up1_ne hk]
      refine ⟨q.1, ?_⟩
      unfold up1
      split
      · decide
      · exact q.2
  · rw [I1c, up1_eq, I1o]
    rw [e128] at ho
    by_cases hox : o = x
    · exact ⟨n, by omega, by rw [up1_eq, hox]⟩
    · rw [up1_ne (by omega)] at ho
      obtain ⟨k, hk, ek⟩ := C.2.2.1 o o0 o1 ho
      exact ⟨k, by omega, by rw [up1_ne (by omega)]; exact ek⟩
  · rw [I1c, up1_eq] at k1
    rw [I1k, I1o, eEg]
    by_cases hk : k = n
    · subst hk
      rw [up1_eq, fillR_in (by omega), show k * 100 + j - k * 100 = j by omega, hK]
    · rw [up1_ne hk, fillR_out (by omega)]
      exact C.2.2.2 k j k0 (by omega) j0 j1
  · rw [I1c, up1_eq, hnn]
