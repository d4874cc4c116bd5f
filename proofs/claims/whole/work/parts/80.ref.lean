/-! ===== the reference's methods (31): what is wanted ===== -/
def m3 (I : Nat → Int → Int) (f p q : Int → Int) : Nat → Int → Int := rowU (rowU (rowU I 138 f) 133 p) 134 q
theorem m3_f {I : Nat → Int → Int} {f p q : Int → Int} {a : Nat} (h1 : a ≠ 133) (h2 : a ≠ 134) (h3 : a ≠ 138) : m3 I f p q a = I a := by
  unfold m3
  rw [rowU_ne h2, rowU_ne h1, rowU_ne h3]
theorem m3_133 {I : Nat → Int → Int} {f p q : Int → Int} : m3 I f p q 133 = p := rfl
theorem m3_134 {I : Nat → Int → Int} {f p q : Int → Int} : m3 I f p q 134 = q := rfl
theorem m3_138 {I : Nat → Int → Int} {f p q : Int → Int} : m3 I f p q 138 = f := rfl
theorem m3_u133 {I : Nat → Int → Int} {f p q r : Int → Int} : rowU (m3 I f p q) 133 r = m3 I f r q := by
  unfold m3
  rw [rowU_cm (a := 134) (b := 133) (by decide), rowU_tw]
theorem m3_u134 {I : Nat → Int → Int} {f p q r : Int → Int} : rowU (m3 I f p q) 134 r = m3 I f p r := by
  unfold m3
  rw [rowU_tw]
theorem m3_u138 {I : Nat → Int → Int} {f p q r : Int → Int} : rowU (m3 I f p q) 138 r = m3 I r p q := by
  unfold m3
  rw [rowU_cm (a := 134) (b := 138) (by decide), rowU_cm (a := 133) (b := 138) (by decide), rowU_tw]
theorem m3_z133 {I : Nat → Int → Int} {f p q : Int → Int} {k v : Int} : zu2 (m3 I f p q) 133 k v = m3 I f (up1 p k v) q := by
  rw [zu2_row, m3_u133, m3_133]
theorem m3_z134 {I : Nat → Int → Int} {f p q : Int → Int} {k v : Int} : zu2 (m3 I f p q) 134 k v = m3 I f p (up1 q k v) := by
  rw [zu2_row, m3_u134, m3_134]
theorem m3_z138 {I : Nat → Int → Int} {f p q : Int → Int} {k v : Int} : zu2 (m3 I f p q) 138 k v = m3 I (up1 f k v) p q := by
  rw [zu2_row, m3_u138, m3_138]
theorem m3_o {I : Nat → Int → Int} {f p q : Int → Int} : m3 I f p q = rowU (rowU (rowU I 138 f) 134 q) 133 p := by
  unfold m3
  rw [rowU_cm (a := 133) (b := 134) (by decide)]
/-- folders of wanted versions -/
def Wf (I : Nat → Int → Int) (s z l n j : Int) : Prop := ∃ i, (0 ≤ i ∧ i < n) ∧ Wv I s z l i ∧ j = atR I i 0
/-- all that is wanted -/
def Wn (I : Nat → Int → Int) (s x l j : Int) : Prop := (Wv I s (tp I x) l j ∨ Cl (Eg I s) (Wf I s (tp I x) l (I 94 0)) j) ∨ j = x - 1
theorem r262 {h : HP} {I : Nat → Int → Int} {s x l : Int} {v4 v5 v6 v7 : MV} (L : LX 11 h 94) (W : WB I) (V : WV I) (Z : Z133 I) (Z4 : ∃ P, S3 P ∧ I 134 = ind P) (hs : s = 0 ∨ s = 1) (hx : 0 < x ∧ x ≤ I 94 0) (hz : Vs I (tp I x)) (hl : 0 ≤ l) :
    ∃ f, Go 262 0 [.inr (.inl (some 94)), .inl s, .inl x, .inl l, v4, v5, v6, v7] [] (mI h I) = some (mI h (m3 I f (ind (Cl (Eg I s) (Wf I s (tp I x) l (I 94 0)))) (ind (Wn I s x l))), .inl none) := by
  have ht := WB_t W
  have hT := W.1
  have hzl := hz.1
  obtain ⟨P4, hP4, eP4⟩ := Z4
  obtain ⟨z, hzz⟩ : ∃ z, z = tp I x := ⟨_, rfl⟩
  rw [← hzz] at hz hzl
  have e94 : ∀ f p q, m3 I f p q 94 = I 94 := fun f p q => m3_f (by decide) (by decide) (by decide)
  have e97 : ∀ f p q, m3 I f p q 97 = I 97 := fun f p q => m3_f (by decide) (by decide) (by decide)
  have e98 : ∀ f p q, m3 I f p q 98 = I 98 := fun f p q => m3_f (by decide) (by decide) (by decide)
  have eat : ∀ f p q, atR (m3 I f p q) = atR I := fun f p q => by
    unfold atR fnd
    rw [e97, e98, e94]
  have ht3 : ∀ f p q, 0 ≤ m3 I f p q 94 0 ∧ m3 I f p q 94 0 ≤ 120 := fun f p q => by rw [e94]; exact ht
  have key0 := lpU (fun k => Go 262 2 [.inr (.inl (some 94)), .inl s, .inl x, .inl l, .inl k, v5, v6, v7] [] (mI h (m3 I (fillR (I 138) 0 k (fun _ => 1000)) (I 133) (fillR (I 134) 0 k (ind (fun _ => False)))))) 0 120 (by omega) ?_
  rotate_left
  · intro k k0 k1
    rw [b262_2, if_neg (by omega), b262_5 L (by omega) (by omega), m3_z134, m3_z138, fillR_s (f := I 134) k0 (b01_f (fun q => q)).symm, fillR_s (f := I 138) k0 rfl]
  have h26 : Go 262 0 [.inr (.inl (some 94)), .inl s, .inl x, .inl l, v4, v5, v6, v7] [] (mI h I) = Go 262 26 [.inr (.inl (some 94)), .inl s, .inl x, .inl l, .inl 1, v5, v6, v7] [] (mI h (m3 I (up1 (fillR (I 138) 0 120 (fun _ => 1000)) z 0) (I 133) (ind (fun _ => False)))) := by
    have e0 : m3 I (fillR (I 138) 0 0 (fun _ => 1000)) (I 133) (fillR (I 134) 0 0 (ind (fun _ => False))) = I := by
      rw [fillR_0 (by omega), fillR_0 (by omega)]
      unfold m3
      rw [rowU_id, rowU_id, rowU_id]
    have etp : tp (m3 I (fillR (I 138) 0 120 (fun _ => 1000)) (I 133) (ind (fun _ => False))) x = z := by
      rw [hzz]
      unfold tp
      rw [eat, m3_f (by decide) (by decide) (by decide)]
    rw [e0] at key0
    rw [b262_0, key0, b262_2, if_pos (by decide), eP4, fillR_ind hP4 (fun j q => q.elim), b262_17 L, r261 L (ht3 _ _ _) (by omega), etp, caln_r, b262_22 L (by omega), m3_z138]
  have hF0 : StI I s z (up1 (fillR (I 138) 0 120 (fun _ => 1000)) z 0) := by
    refine ⟨up1_eq, fun k k0 k1 => ?_⟩
    by_cases e : k = z
    · subst e
      rw [up1_eq]
      exact ⟨by decide, Or.inr ⟨by omega, hz, rfl⟩⟩
    · rw [up1_ne e, fillR_in (by omega)]
      exact ⟨by decide, Or.inl rfl⟩
  rw [h26]
  generalize up1 (fillR (I 138) 0 120 (fun _ => 1000)) z 0 = F0 at hF0
  have main : ∃ f w5 w6 w7, Go 262 26 [.inr (.inl (some 94)), .inl s, .inl x, .inl l, .inl 1, v5, v6, v7] [] (mI h (m3 I F0 (I 133) (ind (fun _ => False)))) = Go 262 112 [.inr (.inl (some 94)), .inl s, .inl x, .inl l, .inl 0, w5, w6, w7] [] (mI h (m3 I f (I 133) (ind (fun _ => False)))) ∧ StI I s z f ∧ ∀ a, 0 ≤ a → a < I 94 0 → f a < 1000 → ∀ b, Ep I s a b → f b ≤ f a + 1 := by
    refine lpW (fun y : (Int → Int) × MV × MV × MV => Go 262 26 [.inr (.inl (some 94)), .inl s, .inl x, .inl l, .inl 1, y.2.1, y.2.2.1, y.2.2.2] [] (mI h (m3 I y.1 (I 133) (ind (fun _ => False))))) (fun y => StI I s z y.1)
      (fun r => ∃ f w5 w6 w7, r = Go 262 112 [.inr (.inl (some 94)), .inl s, .inl x, .inl l, .inl 0, w5, w6, w7] [] (mI h (m3 I f (I 133) (ind (fun _ => False)))) ∧ StI I s z f ∧ ∀ a, 0 ≤ a → a < I 94 0 → f a < 1000 → ∀ b, Ep I s a b → f b ≤ f a + 1)
      (fun y => smZ (fun j => (y.1 j).toNat) (I 94 0).toNat) ?_ (F0, v5, v6, v7) hF0
    rintro ⟨f0, y5, y6, y7⟩ i0
    dsimp only at i0 ⊢
    rw [b262_26, if_neg neg1_ne, b262_28]
    have key := lpE (fun k (y : (Int → Int) × Prop × MV × MV) => Go 262 32 [.inr (.inl (some 94)), .inl s, .inl x, .inl l, .inl (b01 y.2.1), .inl k, y.2.2.1, y.2.2.2] [] (mI h (m3 I y.1 (I 133) (ind (fun _ => False)))))
      (fun k y => StI I s z y.1 ∧ (∀ j, y.1 j ≤ f0 j) ∧ (y.2.1 → ∃ j, (0 ≤ j ∧ j < I 94 0) ∧ y.1 j < f0 j) ∧ (¬y.2.1 → y.1 = f0 ∧ ∀ a, 0 ≤ a → a < k → f0 a < 1000 → ∀ b, Ep I s a b → f0 b ≤ f0 a + 1)) 0 (I 94 0) ht.1 ?_ (f0, False, y6, y7) ⟨i0, fun _ => Int.le_refl _, fun q => q.elim, fun _ => ⟨rfl, fun a b c => by omega⟩⟩
    · obtain ⟨⟨f, g, u6, u7⟩, e, j1, j2, j3, j4⟩ := key
      dsimp only at e j1 j2 j3 j4
      rw [b01_f (fun q => q)] at e
      rw [e, b262_32 L, e94, if_pos (Int.le_refl _), b262_111]
      by_cases hg : g
      · right
        rw [b01_t hg]
        refine ⟨(f, .inl (I 94 0), u6, u7), rfl, j1, ?_⟩
        obtain ⟨j, hj, hlt⟩ := j3 hg
        refine smZ_lt hj.1 ?_ _ (by omega) (fun k a b => ?_)
        · have := (j1.2 j hj.1 hj.2).1; dsimp only; omega
        · have := j2 k; dsimp only; omega
      · left
        obtain ⟨q1, q2⟩ := j4 hg
        rw [b01_f hg, b262_26, if_pos rfl]
        exact ⟨f, .inl (I 94 0), u6, u7, rfl, j1, by rw [q1]; exact q2⟩
    · rintro k ⟨f, g, u6, u7⟩ k0 k1 ⟨j1, j2, j3, j4⟩
      dsimp only at j1 j2 j3 j4 ⊢
      obtain ⟨f1, g1, w6, w7, e, q1, q2, q3, q4, q5⟩ := r262a (h := h) (I := I) (f := f) (g := g) (s := s) (z := z) (k := k) (x2 := x) (x3 := l) (v6 := u6) (v7 := u7) (R := fun _ => True) (fr := fun f => m3 I f (I 133) (ind (fun _ => False))) L W V hs hzl.2 ⟨k0, k1⟩ j1 (fun f a n4 n8 => by
        by_cases n3 : a = 133
        · subst n3; exact m3_133
        · exact m3_f n3 n4 n8) (fun _ => m3_138) (fun _ _ _ => m3_z138)
      refine ⟨(f1, g1, w6, w7), ?_, q1, fun j => Int.le_trans (q2 j) (j2 j), fun hg1 => ?_, fun hn => ?_⟩
      · rw [b262_32 L, e94, if_neg (by omega)]
        exact e
      · obtain q | ⟨j, hj, hlt⟩ := q4 hg1
        · obtain ⟨j, hj, hlt⟩ := j3 q
          exact ⟨j, hj, by have := q2 j; dsimp only; omega⟩
        · exact ⟨j, hj, by have := j2 j; dsimp only; omega⟩
      · have hng : ¬g := fun q => hn (q3 q)
        obtain ⟨p1, p2⟩ := q5 hn
        obtain ⟨p3, p4⟩ := j4 hng
        refine ⟨p1.trans p3, fun a a0 a1 hfa b eb => ?_⟩
        by_cases hak : a = k
        · subst hak
          rw [p3] at p2
          exact p2 hfa b eb
        · exact p4 a a0 (by omega) hfa b eb
  obtain ⟨f, w5, w6, w7, e1, hSt, hfix⟩ := main
  have hw := St_w W V hz hl hSt hfix
  rw [e1, b262_112 L, r172 L (show Z133 (m3 I f (I 133) (ind (fun _ => False))) from Z), caln_v, m3_u133, b262_114]
  have key1 := lpU (fun k => Go 262 116 [.inr (.inl (some 94)), .inl s, .inl x, .inl l, .inl 0, .inl k, w6, w7] [] (mI h (m3 I f (ind (Wf I s z l k)) (ind (fun j => (0 ≤ j ∧ j < k) ∧ Wv I s z l j))))) 0 (I 94 0) ht.1 ?_
  · rw [ind_c (P := Wf I s z l 0) (Q := fun _ => False) (fun j => ⟨fun ⟨i, hi, _⟩ => by omega, False.elim⟩), ind_c (P := fun j => (0 ≤ j ∧ j < 0) ∧ Wv I s z l j) (Q := fun _ => False) (fun j => ⟨fun q => by have := q.1; omega, False.elim⟩)] at key1
    have hWvr : ∀ j, Wv I s z l j → 0 ≤ j ∧ j < I 94 0 := fun j ⟨n, q, _⟩ => (Rh_v W V hz n j q).1
    have WB2 : ∀ q : Int → Int, WB (rowU (rowU I 138 f) 134 q) := fun q => by rw [WB_U (by decide), WB_U (by decide)]; exact W
    have Eg2 : ∀ q : Int → Int, Eg (rowU (rowU I 138 f) 134 q) = Eg I := fun q => by rw [Eg_U (by decide) (by decide), Eg_U (by decide) (by decide)]
    have hWf : ∀ j, Wf I s z l (I 94 0) j → 0 ≤ j ∧ j < I 94 0 := by
      rintro j ⟨i, hi, ⟨n, q, _⟩, ej⟩
      have vi := Rh_v W V hz n i q
      have w2 := (W.2 i vi.1.1 vi.1.2).1.2.2.2.2.2.1 vi.2
      have := (W.2 i vi.1.1 vi.1.2).2 0 ⟨Int.le_refl _, by omega, Or.inr (Or.inl ⟨vi.2, by decide⟩)⟩
      rw [ej]
      omega
    rw [key1, b262_116 L, e94, if_pos (Int.le_refl _), b262_156 L, m3_o, r173 L (WB2 _) hs (S := Wf I s z l (I 94 0)) (fun j q => by simp only [rowU, Nat.reduceEqDiff, ↓reduceIte]; exact hWf j q), Eg2, caln_v, ← m3_o, b262_159]
    obtain ⟨C, hC⟩ : ∃ C, C = Cl (Eg I s) (Wf I s z l (I 94 0)) := ⟨_, rfl⟩
    rw [hzz] at hC
    rw [← hzz] at hC
    rw [← hC]
    have hCr : ∀ j, C j → 0 ≤ j ∧ j < I 94 0 := fun j q => by rw [hC] at q; exact Cl_lt W hWf j q
    have key2 := lpU (fun k => Go 262 161 [.inr (.inl (some 94)), .inl s, .inl x, .inl l, .inl 0, .inl k, w6, w7] [] (mI h (m3 I f (ind C) (ind (fun j => Wv I s z l j ∨ (j < k ∧ C j)))))) 0 (I 94 0) ht.1 ?_
    · rw [ind_c (P := fun j => Wv I s z l j ∨ (j < 0 ∧ C j)) (Q := fun j => (0 ≤ j ∧ j < I 94 0) ∧ Wv I s z l j) (fun j => ⟨fun q => q.elim (fun q => ⟨hWvr j q, q⟩) (fun q => by have := hCr j q.2; omega), fun q => Or.inl q.2⟩)] at key2
      refine ⟨f, ?_⟩
      rw [key2, b262_161 L, e94, if_pos (Int.le_refl _), b262_178 L (by omega) (by omega), m3_z134, up1_ind1, ← hzz, ← hC, ind_c (P := Wn I s x l) (Q := fun j => (Wv I s z l j ∨ (j < I 94 0 ∧ C j)) ∨ j = x - 1)]
      intro j
      unfold Wn
      rw [← hzz, ← hC]
      exact ⟨fun q => q.imp (fun q => q.imp id (fun q => ⟨(hCr j q).2, q⟩)) id, fun q => q.imp (fun q => q.imp id And.right) id⟩
    · intro k k0 k1
      have e3 : m3 I f (ind C) (ind (fun j => Wv I s z l j ∨ (j < k ∧ C j))) 134 k = b01 (Wv I s z l k) := by
        rw [m3_134]
        exact b01_c ⟨fun q => q.elim id (fun q => by omega), Or.inl⟩
      have e4 : m3 I f (ind C) (ind (fun j => Wv I s z l j ∨ (j < k ∧ C j))) 133 k = b01 (C k) := rfl
      rw [b262_161 L, e94, if_neg (by omega), b262_165 L (by omega) (by rw [e3, e4, zor_b]; exact b01_or _) (by omega), e3, e4, zor_b, m3_z134]
      congr 3
      congr 1
      funext j
      unfold up1
      by_cases hj : j = k
      · subst hj
        rw [if_pos rfl]
        exact b01_c ⟨fun q => q.imp id (fun q => ⟨by omega, q⟩), fun q => q.imp id And.right⟩
      · rw [if_neg hj]
        exact b01_c ⟨fun q => q.imp id (fun q => ⟨by omega, q.2⟩), fun q => q.imp id (fun q => ⟨by omega, q.2⟩)⟩
  · intro k k0 k1
    have hwk := hw k k0 k1
    rw [b262_116 L, e94, if_neg (by omega), b262_120 L (by omega), m3_138]
    have u134 : ∀ t : Prop, (t ↔ Wv I s z l k) → up1 (ind (fun j => (0 ≤ j ∧ j < k) ∧ Wv I s z l j)) k (b01 t) = ind (fun j => (0 ≤ j ∧ j < k + 1) ∧ Wv I s z l j) := by
      intro t htt
      funext j
      unfold up1
      by_cases hj : j = k
      · subst hj
        rw [if_pos rfl]
        exact b01_c ⟨fun q => ⟨by omega, htt.mp q⟩, fun q => htt.mpr q.2⟩
      · rw [if_neg hj]
        exact b01_c ⟨fun q => ⟨by omega, q.2⟩, fun q => ⟨by omega, q.2⟩⟩
    have no : ¬Wv I s z l k → Go 262 139 [.inr (.inl (some 94)), .inl s, .inl x, .inl l, .inl 0, .inl k, w6, w7] [.inl k, .inr (.inl (some 134))] (mI h (m3 I f (ind (Wf I s z l k)) (ind (fun j => (0 ≤ j ∧ j < k) ∧ Wv I s z l j)))) = Go 262 116 [.inr (.inl (some 94)), .inl s, .inl x, .inl l, .inl 0, .inl (k + 1), w6, w7] [] (mI h (m3 I f (ind (Wf I s z l (k + 1))) (ind (fun j => (0 ≤ j ∧ j < k + 1) ∧ Wv I s z l j)))) := by
      intro hn
      have := u134 False ⟨False.elim, hn⟩
      rw [b01_f (fun q => q)] at this
      rw [b262_139, b262_140 L (by omega) (Or.inl rfl) (by omega), m3_z134, m3_134, up1_eq, if_pos rfl, this, b262_154 (by omega), ind_c (P := Wf I s z l (k + 1)) (Q := Wf I s z l k)]
      intro j
      constructor
      · rintro ⟨i, hi, a, b⟩
        by_cases hik : i = k
        · subst hik; exact absurd a hn
        · exact ⟨i, by omega, a, b⟩
      · rintro ⟨i, hi, a⟩
        exact ⟨i, by omega, a⟩
    have yes : Wv I s z l k → Go 262 137 [.inr (.inl (some 94)), .inl s, .inl x, .inl l, .inl 0, .inl k, w6, w7] [.inl k, .inr (.inl (some 134))] (mI h (m3 I f (ind (Wf I s z l k)) (ind (fun j => (0 ≤ j ∧ j < k) ∧ Wv I s z l j)))) = Go 262 116 [.inr (.inl (some 94)), .inl s, .inl x, .inl l, .inl 0, .inl (k + 1), w6, w7] [] (mI h (m3 I f (ind (Wf I s z l (k + 1))) (ind (fun j => (0 ≤ j ∧ j < k + 1) ∧ Wv I s z l j)))) := by
      intro hn
      have := u134 True ⟨fun _ => hn, fun _ => trivial⟩
      rw [b01_t trivial] at this
      have hn2 := hn
      obtain ⟨n, qn, _⟩ := hn
      have vk := Rh_v W V hz n k qn
      have w2 := (W.2 k vk.1.1 vk.1.2).1.2.2.2.2.2.1 vk.2
      have hat := (W.2 k vk.1.1 vk.1.2).2 0 ⟨Int.le_refl _, by omega, Or.inr (Or.inl ⟨vk.2, by decide⟩)⟩
      rw [b262_137, b262_140 L (by omega) (Or.inr rfl) (by omega), m3_z134, m3_134, up1_eq, if_neg neg1_ne, this, b262_146 L, r169 L (ht3 _ _ _) (by omega) (by decide), eat, caln_r, b262_152 L (by omega), m3_z133, up1_ind1, b262_154 (by omega), ind_c (P := Wf I s z l (k + 1)) (Q := fun j => Wf I s z l k j ∨ j = atR I k 0)]
      intro j
      constructor
      · rintro ⟨i, hi, a, b⟩
        by_cases hik : i = k
        · subst hik; exact Or.inr b
        · exact Or.inl ⟨i, by omega, a, b⟩
      · rintro (⟨i, hi, a⟩ | q)
        · exact ⟨i, by omega, a⟩
        · exact ⟨k, by omega, hn2, q⟩
    by_cases q1 : 1000 ≤ f k
    · rw [if_pos q1, no (fun q => by have := hwk.mpr q; omega)]
    · rw [if_neg q1, b262_129]
      by_cases q2 : l = 0
      · rw [if_pos q2, yes (hwk.mp ⟨by omega, Or.inl q2⟩)]
      · rw [if_neg q2, b262_131 L (by omega), m3_138]
        by_cases q3 : l ≤ f k
        · rw [if_pos q3, no (fun q => by have := hwk.mpr q; omega)]
        · rw [if_neg q3, yes (hwk.mp ⟨by omega, Or.inr (by omega)⟩)]
