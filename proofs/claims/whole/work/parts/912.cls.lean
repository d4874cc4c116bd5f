/-! ===== the class (42): the courier: what can be sent, what is offered, what is told ===== -/
theorem k27 {h : HP} {I J : Nat → Int → Int} {d : Nat} {s : Int} {S : Int → Prop} {v2 : MV} (L0 : LX 0 h 2) (L2 : LX 2 h 83) (L3 : LX 3 h d) (B : BC I J) (hT : 0 ≤ J 94 0 ∧ J 94 0 ≤ 100) (D : DC h I J d s) (M : PM J) (K : WK J) (P : PDs J) (W : WL J) (hs : s = 0 ∨ s = 1) (h84 : I 84 = ind S) (hS : ∀ j, S j → 0 ≤ j ∧ j < J 94 0) :
    Go 27 0 [.inr (.inl (some 83)), .inr (.inl (some d)), v2] [] (mI h I) = some (mI h I, .inl (some (.inl (b01 (∀ j, S j → Gd J s j))))) := by
  have e27 : I 2 7 = J 94 0 := B.1
  rw [b27_0]
  refine lpQ (fun k (_ : Unit) => Go 27 2 [.inr (.inl (some 83)), .inr (.inl (some d)), .inl k] [] (mI h I)) (fun k _ => ∀ j, S j → j < k → Gd J s j) (fun r => r = some (mI h I, .inl (some (.inl (b01 (∀ j, S j → Gd J s j)))))) 0 (J 94 0) hT.1 ?_ ?_ () (fun j q hj => by have := hS j q; omega)
  · intro k _ k0 k1 hq
    have e4 : I 84 k = b01 (S k) := by rw [h84]; rfl
    have go : (S k → Gd J s k) → ∀ j, S j → j < k + 1 → Gd J s j := fun g j q hj => by
      by_cases c : j = k
      · subst c; exact g q
      · exact hq j q (by omega)
    rw [b27_2 L2 L0, e27, if_neg (by omega), b27_7 L2 (by omega), e4]
    by_cases c : S k
    · rw [b01_t c, if_neg neg1_ne, b27_12 L3, k38 L3 D M K P W hs ⟨k0, by omega⟩, caln_r, b27_15]
      by_cases g : Gd J s k
      · right
        exact ⟨(), by rw [b01_t g, if_pos neg1_ne, b27_18 (by omega)], go (fun _ => g)⟩
      · left
        rw [b01_f g, if_neg (fun t => t rfl), b27_16, b01_f (fun q => g (q k c))]
    · right
      exact ⟨(), by rw [b01_f c, if_pos rfl, b27_18 (by omega)], go (fun q => absurd q c)⟩
  · intro _ hq
    rw [b27_2 L2 L0, e27, if_pos (Int.le_refl _), b27_20, b01_t (fun j q => hq j q (hS j q).2)]
theorem k28 {h : HP} {I J : Nat → Int → Int} {d : Nat} {s : Int} {H P1 : Int → Prop} {v3 : MV} (L0 : LX 0 h 2) (L2 : LX 2 h 83) (Lh : LX 7 h 88) (L1 : hK h 91 = (1, 100)) (L3 : LX 3 h d) (O : OWN h) (hd : d = 11 ∨ d = 43) (B : BC I J) (hT : 0 ≤ J 94 0 ∧ J 94 0 ≤ 100) (D : DC h I J d s) (M : PM J) (K : WK J) (P : PDs J) (W : WL J) (hs : s = 0 ∨ s = 1) (h89 : I 89 = ind H) (h91 : I 91 = ind P1) (hP : ∀ j, P1 j → 0 ≤ j ∧ j < J 94 0) :
    Go 28 0 [.inr (.inl (some 83)), .inr (.inl (some d)), .inr (.inl (some 91)), v3] [] (mI h I) = some (mI h (rowU I 91 (ind (fun j => (0 ≤ j ∧ j < J 94 0) ∧ H j ∧ Gd J s j))), .inl none) := by
  have key := lpU (fun k => Go 28 2 [.inr (.inl (some 83)), .inr (.inl (some d)), .inr (.inl (some 91)), .inl k] [] (mI h (rowU I 91 (ind (fun j => ((0 ≤ j ∧ j < k) ∧ H j ∧ Gd J s j) ∨ (P1 j ∧ k ≤ j)))))) 0 (J 94 0) hT.1 ?_
  · have e0 : mI h I = mI h (rowU I 91 (ind (fun j => ((0 ≤ j ∧ j < 0) ∧ H j ∧ Gd J s j) ∨ (P1 j ∧ 0 ≤ j)))) := by
      rw [ind_c (Q := P1) (fun j => ⟨fun q => q.elim (fun q => by omega) And.left, fun q => Or.inr ⟨q, (hP j q).1⟩⟩), ← h91, rowU_id]
    rw [b28_0, e0, key, b28_2 L2 L0, rowU_ne (by decide), B.1, if_pos (Int.le_refl _), b28_29]
    rw [ind_c (fun j => ⟨fun q => q.elim id (fun q => by have := hP j q.1; omega), Or.inl⟩)]
  · intro k k0 k1
    obtain ⟨Q, hQ⟩ : ∃ Q : Int → Prop, Q = fun j => ((0 ≤ j ∧ j < k) ∧ H j ∧ Gd J s j) ∨ (P1 j ∧ k ≤ j) := ⟨_, rfl⟩
    have e9 : rowU I 91 (ind Q) 89 k = b01 (H k) := by rw [rowU_ne (by decide), h89]; rfl
    have DQ : DC h (rowU I 91 (ind Q)) J d s := DC_I O hd (fun c hc => rowU_ne (by omega)) D
    have fin : ∀ v, v = b01 (H k ∧ Gd J s k) → Go 28 26 [.inr (.inl (some 83)), .inr (.inl (some d)), .inr (.inl (some 91)), .inl k] [.inl v, .inl k, .inr (.inl (some 91))] (mI h (rowU I 91 (ind Q))) = Go 28 2 [.inr (.inl (some 83)), .inr (.inl (some d)), .inr (.inl (some 91)), .inl (k + 1)] [] (mI h (rowU I 91 (ind (fun j => ((0 ≤ j ∧ j < k + 1) ∧ H j ∧ Gd J s j) ∨ (P1 j ∧ k + 1 ≤ j))))) := fun v hv => by
      rw [b28_26 L1 (by omega) (by rw [hv]; exact b01_or _) (by omega), zu2_row, rowU_tw, rowU_eq]
      have : up1 (ind Q) k v = ind (fun j => ((0 ≤ j ∧ j < k + 1) ∧ H j ∧ Gd J s j) ∨ (P1 j ∧ k + 1 ≤ j)) := by
        refine funext (fun j => ?_)
        by_cases c : j = k
        · subst c
          rw [up1_eq, hv]
          exact b01_c ⟨fun q => Or.inl ⟨by omega, q⟩, fun q => q.elim And.right (fun q => by omega)⟩
        · rw [up1_ne c, hQ]
          exact b01_c ⟨fun q => q.imp (fun q => ⟨by omega, q.2⟩) (fun q => ⟨q.1, by omega⟩), fun q => q.imp (fun q => ⟨by omega, q.2⟩) (fun q => ⟨q.1, by omega⟩)⟩
      rw [this]
    rw [← hQ, b28_2 L2 L0, rowU_ne (by decide), B.1, if_neg (by omega), b28_7 L1, if_neg (by omega), b28_11 L2 Lh (by omega), e9]
    by_cases c : H k
    · rw [b01_t c, if_neg neg1_ne, b28_19 L3, k38 L3 DQ M K P W hs ⟨k0, by omega⟩, caln_r, b28_22]
      by_cases g : Gd J s k
      · rw [b01_t g, if_neg neg1_ne, b28_23, fin 1 (by rw [b01_t (And.intro c g)])]
      · rw [b01_f g, if_pos rfl, b28_25, fin 0 (by rw [b01_f (fun q => g q.2)])]
    · rw [b01_f c, if_pos rfl, b28_25, fin 0 (by rw [b01_f (fun q => c q.1)])]
/-- a parent is neither wanted nor had -/
def EnW (J : Nat → Int → Int) (W H : Int → Prop) (k : Int) : Prop := ∃ b, Sb J k (J 96 k) b ∧ ¬W b ∧ ¬H b
theorem k30 {h : HP} {I J : Nat → Int → Int} {x : Int} {W H : Int → Prop} {v2 v3 : MV} (L0 : LX 0 h 2) (L2 : LX 2 h 83) (Lw : LX 7 h 86) (Lh : LX 7 h 88) (B : BC I J) (R : RB J) (V : WV J) (hx : Vs J x) (h87 : I 87 = ind W) (h89 : I 89 = ind H) :
    Go 30 0 [.inr (.inl (some 83)), .inl x, v2, v3] [] (mI h I) = some (mI h I, .inl (some (.inl (b01 (EnW J W H x))))) := by
  have hT := R.1.1
  have hx1 := hx.1
  obtain ⟨p1, p2, p3, p4⟩ := pv_v R.1 hx
  have h7 : ∀ k (w : MV), Go 30 2 [.inr (.inl (some 83)), .inl x, .inl k, w] [] (mI h I) = if J 96 x - 2 < k then Go 30 33 [.inr (.inl (some 83)), .inl x, .inl k, w] [] (mI h I) else Go 30 8 [.inr (.inl (some 83)), .inl x, .inl k, w] [] (mI h I) := fun k w => by
    rw [b30_2 L2 L0, k9 L0 B R, caln_r, p1, b30_7]
  rw [b30_0]
  refine lpQ (fun k (w : MV) => Go 30 2 [.inr (.inl (some 83)), .inl x, .inl (k + 1), w] [] (mI h I)) (fun k _ => ∀ b, Sb J x (k + 2) b → W b ∨ H b) (fun r => r = some (mI h I, .inl (some (.inl (b01 (EnW J W H x)))))) 0 (J 96 x - 2) (by omega) ?_ ?_ v3 (fun b ⟨j, j2, j3, _⟩ => by omega)
  · intro k w k0 k1 hq
    obtain ⟨y, hy⟩ : ∃ y, y = atR J x (k + 2) := ⟨_, rfl⟩
    have r := Vs_p R.1 V hx (j := k + 2) (by omega) (by omega)
    rw [← hy] at r
    have ry := r.1.1
    have e87 : I 87 y = b01 (W y) := by rw [h87]; rfl
    have e89 : I 89 y = b01 (H y) := by rw [h89]; rfl
    have hS := fun b => Sb_s (I := J) (a := x) (m := k + 2) (by omega) b
    have go : W y ∨ H y → ∀ b, Sb J x (k + 1 + 2) b → W b ∨ H b := fun q b hb => by
      rw [show k + 1 + 2 = k + 2 + 1 by omega] at hb
      obtain hb | hb := (hS b).mp hb
      · exact hq b hb
      · rw [← hy] at hb; rw [hb]; exact q
    rw [h7, if_neg (by omega), b30_8 L2 L0, k7 L0 B R, caln_r, p4 k k0 k1, ← hy, b30_13, if_neg (by omega), b30_17 L2 Lw (by omega), e87]
    by_cases c1 : W y
    · right
      exact ⟨.inl y, by rw [b01_t c1, if_pos neg1_ne, b30_31 (by omega)], go (Or.inl c1)⟩
    · rw [b01_f c1, if_neg (fun t => t rfl), b30_23 L2 Lh (by omega), e89]
      by_cases c2 : H y
      · right
        exact ⟨.inl y, by rw [b01_t c2, if_pos neg1_ne, b30_31 (by omega)], go (Or.inr c2)⟩
      · left
        rw [b01_f c2, if_neg (fun t => t rfl), b30_29, b01_t (p := EnW J W H x) ⟨y, ⟨k + 2, by omega, by omega, hy⟩, c1, c2⟩]
  · intro w hq
    rw [h7, if_pos (by omega), b30_33, b01_f (p := EnW J W H x)]
    rintro ⟨b, sb, n1, n2⟩
    rw [show J 96 x - 2 + 2 = J 96 x by omega] at hq
    exact (hq b sb).elim n1 n2
noncomputable def tSh (J : Nat → Int → Int) (W H : Int → Prop) (s n : Int) (f : Int → Int) : Int → Int := fun o => @ite _ ((0 ≤ o ∧ o < n) ∧ W o ∧ J 95 o = 2) (Classical.propDecidable _) (b01 (EnW J W H o)) (f o)
def tOt (J : Nat → Int → Int) (W H : Int → Prop) (s n : Int) : Prop := ∃ k, (0 ≤ k ∧ k < n) ∧ W k ∧ J 95 k = 2 ∧ J 116 (120 * s + k) ≠ b01 (EnW J W H k)
theorem k29 {h : HP} {I J : Nat → Int → Int} {n : Nat} {s : Int} {W H : Int → Prop} {v2 v3 v4 : MV} (L0 : LX 0 h 2) (L2 : LX 2 h 83) (Lw : LX 7 h 86) (Lh : LX 7 h 88) (L4 : LX 4 h n) (hn : n + 4 < 83) (hn9 : 9 < n) (B : BC I J) (R : RB J) (V : WV J) (hC : ShC I J n s) (h87 : I 87 = ind W) (h89 : I 89 = ind H) :
    Go 29 0 [.inr (.inl (some 83)), .inr (.inl (some n)), v2, v3, v4] [] (mI h I) = some (mI h (rowU I (n + 3) (tSh J W H s (J 94 0) (I (n + 3)))), .inl (some (.inl (b01 (tOt J W H s (J 94 0)))))) := by
  have hT := R.1.1
  have key := lpE (fun k (w : MV) => Go 29 4 [.inr (.inl (some 83)), .inr (.inl (some n)), .inl (b01 (tOt J W H s k)), .inl k, w] [] (mI h (rowU I (n + 3) (tSh J W H s k (I (n + 3)))))) (fun _ _ => True) 0 (J 94 0) hT.1 ?_ v4 trivial
  · obtain ⟨w, e, _⟩ := key
    have e0 : mI h I = mI h (rowU I (n + 3) (tSh J W H s 0 (I (n + 3)))) := by
      have : tSh J W H s 0 (I (n + 3)) = I (n + 3) := funext (fun o => if_neg (fun q => by omega))
      rw [this, rowU_id]
    have e1 : b01 (tOt J W H s 0) = 0 := b01_f (fun ⟨k, hk, _⟩ => by omega)
    rw [e1] at e
    rw [b29_0, e0, e, b29_4 L2 L0, rowU_ne (by omega), B.1, if_pos (Int.le_refl _), b29_44 (b01_or _)]
  · intro k w k0 k1 _
    obtain ⟨f, hf⟩ : ∃ f, f = tSh J W H s k (I (n + 3)) := ⟨_, rfl⟩
    have hk : 0 ≤ k ∧ k < J 94 0 := ⟨k0, k1⟩
    have BU : BC (rowU I (n + 3) f) J := by rw [BC_U (by omega)]; exact B
    have f7 : rowU I (n + 3) f 87 = ind W := by rw [rowU_ne (by omega), h87]
    have f9 : rowU I (n + 3) f 89 = ind H := by rw [rowU_ne (by omega), h89]
    have f3 : rowU I (n + 3) f (n + 3) k = J 116 (120 * s + k) := by
      rw [rowU_eq, hf]
      unfold tSh
      rw [if_neg (fun q => by omega)]
      exact hC k k0 k1
    have no : ¬(W k ∧ J 95 k = 2) → tSh J W H s (k + 1) (I (n + 3)) = f ∧ b01 (tOt J W H s (k + 1)) = b01 (tOt J W H s k) := fun q => by
      refine ⟨?_, b01_c ⟨fun ⟨i, hi, r⟩ => ⟨i, ?_, r⟩, fun ⟨i, hi, r⟩ => ⟨i, by omega, r⟩⟩⟩
      · rw [hf]
        refine funext (fun o => ?_)
        unfold tSh
        by_cases c : o = k
        · subst c
          rw [if_neg (fun t => q t.2), if_neg (fun t => q t.2)]
        · by_cases c2 : (0 ≤ o ∧ o < k) ∧ W o ∧ J 95 o = 2
          · rw [if_pos c2, if_pos ⟨by omega, c2.2⟩]
          · rw [if_neg c2, if_neg (fun t => c2 ⟨by omega, t.2⟩)]
      · have : i ≠ k := fun c => by subst c; exact q ⟨r.1, r.2.1⟩
        omega
    rw [← hf, b29_4 L2 L0, rowU_ne (by omega), B.1, if_neg (by omega), b29_9 L2 L0, k3 L0 BU R, caln_r, kdO_t hk, b29_13]
    by_cases c1 : J 95 k = 2
    · rw [if_neg (fun t => t c1), b29_15 L2 Lw (by omega), f7, show ind W k = b01 (W k) from rfl]
      by_cases c2 : W k
      · obtain ⟨b, hb⟩ : ∃ b, b = b01 (EnW J W H k) := ⟨_, rfl⟩
        have b1 : b = 0 ∨ b = 1 := by rw [hb]; exact b01_or _
        rw [b01_t c2, if_neg neg1_ne, b29_21 L2, k30 L0 L2 Lw Lh BU R V ⟨hk, c1⟩ f7 f9, caln_r, ← hb, b29_24]
        have fin : ∀ v, v = b01 (tOt J W H s (k + 1)) → ∃ x1, Go 29 36 [.inr (.inl (some 83)), .inr (.inl (some n)), .inl (b01 (tOt J W H s k)), .inl k, .inl b] [.inl v] (mI h (rowU I (n + 3) f)) = Go 29 4 [.inr (.inl (some 83)), .inr (.inl (some n)), .inl (b01 (tOt J W H s (k + 1))), .inl (k + 1), x1] [] (mI h (rowU I (n + 3) (tSh J W H s (k + 1) (I (n + 3))))) ∧ True := fun v hv => by
          refine ⟨.inl b, ?_, trivial⟩
          rw [b29_36 L4 (by omega) b1, b29_42 (by omega), hv, zu2_row, rowU_tw, rowU_eq]
          have : up1 f k b = tSh J W H s (k + 1) (I (n + 3)) := by
            refine funext (fun o => ?_)
            by_cases c : o = k
            · subst c
              rw [up1_eq, hb]
              unfold tSh
              rw [if_pos ⟨by omega, c2, c1⟩]
            · rw [up1_ne c, hf]
              unfold tSh
              by_cases c3 : (0 ≤ o ∧ o < k) ∧ W o ∧ J 95 o = 2
              · rw [if_pos c3, if_pos ⟨by omega, c3.2⟩]
              · rw [if_neg c3, if_neg (fun t => c3 ⟨by omega, t.2⟩)]
          rw [this]
        by_cases c3 : tOt J W H s k
        · rw [b01_t c3, if_pos neg1_ne, b29_33]
          have := fin 1 (by obtain ⟨i, hi, r⟩ := c3; rw [b01_t (p := tOt J W H s (k + 1)) ⟨i, by omega, r⟩])
          rw [b01_t c3] at this
          exact this
        · have c3' := b01_f c3
          rw [c3', if_neg (fun t => t rfl), b29_27 L4 (by omega), f3]
          rw [c3'] at fin
          by_cases c4 : J 116 (120 * s + k) = b
          · rw [if_pos c4, b29_35]
            exact fin 0 (by
              rw [b01_f (p := tOt J W H s (k + 1))]
              rintro ⟨i, hi, r⟩
              by_cases ci : i = k
              · subst ci; exact r.2.2 (c4.trans hb)
              · exact c3 ⟨i, by omega, r⟩)
          · rw [if_neg c4, b29_33]
            exact fin 1 (by rw [b01_t (p := tOt J W H s (k + 1)) ⟨k, by omega, c2, c1, by rw [← hb]; exact c4⟩])
      · rw [b01_f c2, if_pos rfl, b29_42 (by omega)]
        obtain ⟨e1, e2⟩ := no (fun t => c2 t.1)
        exact ⟨w, by rw [e1, e2], trivial⟩
    · rw [if_pos c1, b29_42 (by omega)]
      obtain ⟨e1, e2⟩ := no (fun t => c1 t.2)
      exact ⟨w, by rw [e1, e2], trivial⟩
noncomputable def tPr (J : Nat → Int → Int) (W S : Int → Prop) (s n : Int) (f : Int → Int) : Int → Int := fun o => @ite _ ((0 ≤ o ∧ o < n) ∧ W o ∧ J 95 o = 0 ∧ ¬S o ∧ ¬Th J s o) (Classical.propDecidable _) 1 (f o)
theorem k31 {h : HP} {I J : Nat → Int → Int} {d : Nat} {s : Int} {W S : Int → Prop} {v2 v3 : MV} (L0 : LX 0 h 2) (L2 : LX 2 h 83) (Lw : LX 7 h 86) (L3 : LX 3 h d) (L4 : LX 4 h (d + 6)) (hd : d = 11 ∨ d = 43) (B : BC I J) (R : RB J) (h87 : I 87 = ind W) (h84 : I 84 = ind S)
    (h37 : ∀ K o, (∀ c, c ≠ d + 10 → K c = I c) → 0 ≤ o → o < 100 → Go 37 0 [.inr (.inl (some d)), .inl o] [] (mI h K) = some (mI h K, .inl (some (.inl (b01 (Th J s o)))))) :
    Go 31 0 [.inr (.inl (some 83)), .inr (.inl (some d)), v2, v3] [] (mI h I) = some (mI h (rowU I (d + 10) (tPr J W S s (J 94 0) (I (d + 10)))), .inl none) := by
  have hT := R.1.1
  have key := lpE (fun k (w : MV) => Go 31 2 [.inr (.inl (some 83)), .inr (.inl (some d)), .inl k, w] [] (mI h (rowU I (d + 10) (tPr J W S s k (I (d + 10)))))) (fun _ _ => True) 0 (J 94 0) hT.1 ?_ v3 trivial
  · obtain ⟨w, e, _⟩ := key
    have e0 : mI h I = mI h (rowU I (d + 10) (tPr J W S s 0 (I (d + 10)))) := by
      have : tPr J W S s 0 (I (d + 10)) = I (d + 10) := funext (fun o => if_neg (fun q => by omega))
      rw [this, rowU_id]
    rw [b31_0, e0, e, b31_2 L2 L0, rowU_ne (by omega), B.1, if_pos (Int.le_refl _), b31_41]
  · intro k w k0 k1 _
    obtain ⟨f, hf⟩ : ∃ f, f = tPr J W S s k (I (d + 10)) := ⟨_, rfl⟩
    have hk : 0 ≤ k ∧ k < J 94 0 := ⟨k0, k1⟩
    have BU : BC (rowU I (d + 10) f) J := by rw [BC_U (by omega)]; exact B
    have f7 : rowU I (d + 10) f 87 k = b01 (W k) := by rw [rowU_ne (by omega), h87]; rfl
    have f4 : rowU I (d + 10) f 84 k = b01 (S k) := by rw [rowU_ne (by omega), h84]; rfl
    have no : ¬(W k ∧ J 95 k = 0 ∧ ¬S k ∧ ¬Th J s k) → tPr J W S s (k + 1) (I (d + 10)) = f := fun q => by
      rw [hf]
      refine funext (fun o => ?_)
      unfold tPr
      by_cases c : o = k
      · subst c
        rw [if_neg (fun t => q t.2), if_neg (fun t => q t.2)]
      · by_cases c2 : (0 ≤ o ∧ o < k) ∧ W o ∧ J 95 o = 0 ∧ ¬S o ∧ ¬Th J s o
        · rw [if_pos c2, if_pos ⟨by omega, c2.2⟩]
        · rw [if_neg c2, if_neg (fun t => c2 ⟨by omega, t.2⟩)]
    have stay : ¬(W k ∧ J 95 k = 0 ∧ ¬S k ∧ ¬Th J s k) → ∀ w : Int, ∃ x1, Go 31 39 [.inr (.inl (some 83)), .inr (.inl (some d)), .inl k, .inl w] [] (mI h (rowU I (d + 10) f)) = Go 31 2 [.inr (.inl (some 83)), .inr (.inl (some d)), .inl (k + 1), x1] [] (mI h (rowU I (d + 10) (tPr J W S s (k + 1) (I (d + 10))))) ∧ True := fun q w => ⟨.inl w, by rw [b31_39 (by omega), no q], trivial⟩
    have out : ¬(W k ∧ J 95 k = 0 ∧ ¬S k ∧ ¬Th J s k) → ∃ x1, Go 31 25 [.inr (.inl (some 83)), .inr (.inl (some d)), .inl k, w] [] (mI h (rowU I (d + 10) f)) = Go 31 2 [.inr (.inl (some 83)), .inr (.inl (some d)), .inl (k + 1), x1] [] (mI h (rowU I (d + 10) (tPr J W S s (k + 1) (I (d + 10))))) ∧ True := fun q => by
      rw [b31_25, b31_26, if_pos rfl]
      exact stay q _
    rw [← hf, b31_2 L2 L0, rowU_ne (by omega), B.1, if_neg (by omega), b31_7 L2 L0, k3 L0 BU R, caln_r, kdO_t hk, b31_11]
    by_cases c1 : J 95 k = 0
    · rw [if_neg (fun t => t c1), b31_12 L2 Lw (by omega), f7]
      by_cases c2 : W k
      · rw [b01_t c2, if_neg neg1_ne, b31_18 L2 (by omega), f4]
        by_cases c3 : S k
        · rw [b01_t c3, if_pos neg1_ne]
          exact out (fun t => t.2.2.1 c3)
        · rw [b01_f c3, if_neg (fun t => t rfl), b31_23, b31_26, if_neg neg1_ne, b31_29 L3, h37 _ k (fun c hc => rowU_ne hc) k0 (by omega), caln_r, b31_32]
          by_cases c4 : Th J s k
          · rw [b01_t c4, if_pos neg1_ne]
            exact stay (fun t => t.2.2.2 c4) _
          · rw [b01_f c4, if_neg (fun t => t rfl), b31_33 L3 L4 (by omega), b31_39 (by omega)]
            refine ⟨.inl 1, ?_, trivial⟩
            rw [zu2_row, rowU_tw, rowU_eq]
            have : up1 f k 1 = tPr J W S s (k + 1) (I (d + 10)) := by
              refine funext (fun o => ?_)
              by_cases c : o = k
              · subst c
                rw [up1_eq]
                unfold tPr
                rw [if_pos ⟨by omega, c2, c1, c3, c4⟩]
              · rw [up1_ne c, hf]
                unfold tPr
                by_cases c5 : (0 ≤ o ∧ o < k) ∧ W o ∧ J 95 o = 0 ∧ ¬S o ∧ ¬Th J s o
                · rw [if_pos c5, if_pos ⟨by omega, c5.2⟩]
                · rw [if_neg c5, if_neg (fun t => c5 ⟨by omega, t.2⟩)]
            rw [this]
      · rw [b01_f c2, if_pos rfl]
        exact out (fun t => c2 t.1)
    · rw [if_pos c1]
      exact out (fun t => c1 t.2.1)
