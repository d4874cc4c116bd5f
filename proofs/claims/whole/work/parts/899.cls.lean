/-! ===== the class (29): what is marked ===== -/
theorem k85 {h : HP} {I J : Nat → Int → Int} {st a : Nat} {s : Int} {P : Int → Prop} {v2 : MV} (hst : st = 10 ∨ st = 42) (ha : 74 ≤ a) (L : LX 8 h st) (L3 : LX 3 h (st + 1)) (Ln : LX 4 h (st + 7)) (L7 : LX 7 h a) (N : NC I J (st + 7) s) (R : WR J) (hT : J 94 0 ≤ 100) (hs : s = 0 ∨ s = 1) :
    Go 85 0 [.inr (.inl (some st)), .inr (.inl (some a)), v2] [] (mI h (rowU I (a + 1) (ind P))) = some (mI h (rowU I (a + 1) (ind (fun j => P j ∨ Rf J s j))), .inl none) := by
  have key := lpU (fun k => Go 85 2 [.inr (.inl (some st)), .inr (.inl (some a)), .inl k] [] (mI h (rowU I (a + 1) (ind (fun j => P j ∨ ∃ i, (0 ≤ i ∧ i < k) ∧ 0 < J 115 (6 * s + i) ∧ j = J 115 (6 * s + i) - 1))))) 0 6 (by decide) ?_
  · rw [b85_0, ind_c (Q := fun j => P j ∨ ∃ i, (0 ≤ i ∧ i < 0) ∧ 0 < J 115 (6 * s + i) ∧ j = J 115 (6 * s + i) - 1) (fun j => ⟨Or.inl, fun q => q.elim id (fun ⟨i, hi, _⟩ => absurd hi.2 (by omega))⟩), key, b85_2, if_pos (by decide), b85_15]
    rw [ind_c (fun j => ?_)]
    constructor
    · rintro (q | ⟨i, hi, h0, e⟩)
      · exact Or.inl q
      · exact Or.inr ⟨6 * s + i, by omega, by omega, h0, e⟩
    · rintro (q | ⟨k, k0, k1, h0, e⟩)
      · exact Or.inl q
      · refine Or.inr ⟨k - 6 * s, by omega, ?_⟩
        rw [show 6 * s + (k - 6 * s) = k by omega]
        exact ⟨h0, e⟩
  · intro k k0 k1
    have e8 : I (st + 8) k = J 115 (6 * s + k) - 1 := N.1 k k0 k1
    have w := R (6 * s + k) (by omega) (by omega)
    rw [b85_2, if_neg (by omega), b85_5 L L3 Ln (by omega) L7, rowU_ne (by omega), e8, k72 L7, caln_v, b85_13 (by omega)]
    rw [ind_c (fun j => ?_)]
    constructor
    · rintro ((q | ⟨i, hi, h0, e⟩) | ⟨hj, e⟩)
      · exact Or.inl q
      · exact Or.inr ⟨i, by omega, h0, e⟩
      · exact Or.inr ⟨k, by omega, by omega, e⟩
    · rintro (q | ⟨i, hi, h0, e⟩)
      · exact Or.inl (Or.inl q)
      · by_cases hik : i = k
        · subst hik
          exact Or.inr ⟨by omega, e⟩
        · exact Or.inl (Or.inr ⟨i, by omega, h0, e⟩)
/-- what is not told is not there -/
def ZPn (J : Nat → Int → Int) : Prop := ∀ s o, s = 0 ∨ s = 1 → J 94 0 ≤ o → o < 120 → J 127 (120 * s + o) = 0 ∧ J 118 (120 * s + o) = 0
theorem Th_r {J : Nat → Int → Int} (K : WK J) (Z : ZO J) {s o : Int} (hs : s = 0 ∨ s = 1) (h0 : J 94 0 ≤ o) (h1 : o < 120) : ¬Th J s o := by
  rintro (q | ⟨p, k, a, b, c, d, e, f, _⟩)
  · have := (Z s o hs h0 h1).1
    omega
  · have hm := K.1 s hs
    have hk := ((K.2 p (by omega) (by omega)).2 k d e).1
    omega
theorem k86 {h : HP} {I J : Nat → Int → Int} {st a : Nat} {s : Int} {P : Int → Prop} {v3 v4 v5 : MV} (hst : st = 10 ∨ st = 42) (ha : 74 ≤ a) (ha2 : a + 1 < 140) (L : LX 8 h st) (L3 : LX 3 h (st + 1)) (Ln : LX 4 h (st + 7)) (L7 : LX 7 h a) (W : OWN h) (D : DC h I J (st + 1) s) (S : SC I J st s) (T : WT J) (M : PM J) (Z : ZO J) (Zp : ZPn J) (R : WR J) (G : WG J) (Rp : WRp J) (Wr : ∀ k, J 126 k = -1000 ∨ 0 ≤ J 126 k) (hp : ∀ j, J 127 j = 0 ∨ J 127 j = 1) (hl : J 119 s ≤ 512) (hs : s = 0 ∨ s = 1) :
    Go 86 0 [.inr (.inl (some st)), .inr (.inl (some a)), .inl (J 94 8), v3, v4, v5] [] (mI h (rowU I (a + 1) (ind P))) = some (mI h (rowU I (a + 1) (ind (fun j => P j ∨ Rt J s j))), .inl none) := by
  have hT := T.1.1
  have N := (DC_n.mp D).2
  have h119 := G.2.2.2.2 s hs
  have g8 := G.2.2.2.1
  have hd : st + 1 = 11 ∨ st + 1 = 43 := by omega
  have e7 : ∀ f, rowU I (a + 1) f (st + 7) 4 = J 119 s := fun f => by rw [rowU_ne (by omega)]; exact N.2.1
  have key1 := lpU (fun k => Go 86 5 [.inr (.inl (some st)), .inr (.inl (some a)), .inl (J 94 8), .inl k, v4, v5] [] (mI h (rowU I (a + 1) (ind (fun j => (P j ∨ Rf J s j) ∨ Lg J s (600 * s + k) j))))) 0 (J 119 s) h119.1 ?_
  · have key2 := lpE (fun k (v : MV × MV) => Go 86 38 [.inr (.inl (some st)), .inr (.inl (some a)), .inl (J 94 8), .inl k, v.1, v.2] [] (mI h (rowU I (a + 1) (ind (fun j => ((P j ∨ Rf J s j) ∨ Lg J s (600 * s + J 119 s) j) ∨ ∃ o, (0 ≤ o ∧ o < k) ∧ ((j = o ∧ Ro J s o) ∨ (0 < J 118 (120 * s + o) ∧ j = J 118 (120 * s + o) - 1))))))) (fun _ _ => True) 0 100 (by decide) ?_ (v4, v5) trivial
    · obtain ⟨⟨u, v⟩, e2, _⟩ := key2
      dsimp only at e2
      rw [b86_0 L, k85 hst ha L L3 Ln L7 N R hT.2 hs, caln_v, b86_3, ind_c (Q := fun j => (P j ∨ Rf J s j) ∨ Lg J s (600 * s + 0) j) (fun j => ⟨Or.inl, fun q => q.elim id (fun ⟨i, h0, h1, _⟩ => absurd h0 (by omega))⟩), key1, b86_5 L L3 Ln, e7, if_pos (Int.le_refl _), b86_36,
        ind_c (Q := fun j => ((P j ∨ Rf J s j) ∨ Lg J s (600 * s + J 119 s) j) ∨ ∃ o, (0 ≤ o ∧ o < 0) ∧ ((j = o ∧ Ro J s o) ∨ (0 < J 118 (120 * s + o) ∧ j = J 118 (120 * s + o) - 1))) (fun j => ⟨Or.inl, fun q => q.elim id (fun ⟨i, hi, _⟩ => absurd hi.2 (by omega))⟩), e2, b86_38, if_pos (by decide), b86_89]
      rw [ind_c (fun j => ?_)]
      unfold Rt Ob
      constructor
      · rintro (((q | q) | q) | ⟨o, ho, q⟩)
        · exact Or.inl q
        · exact Or.inr (Or.inl (Or.inl q))
        · exact Or.inr (Or.inl (Or.inr q))
        · by_cases h0 : o < J 94 0
          · exact Or.inr (Or.inr ⟨o, ho.1, h0, q⟩)
          · have z := Zp s o hs (by omega) (by omega)
            have zt := Th_r T.2.2.2.1 Z hs (o := o) (by omega) (by omega)
            obtain ⟨_, r⟩ | ⟨r, _⟩ := q
            · obtain r | r | r := r
              · exact absurd z.1 r
              · have := z.2; omega
              · exact absurd r.1 zt
            · have := z.2; omega
      · rintro (q | ((q | q) | ⟨o, h0, h1, q⟩))
        · exact Or.inl (Or.inl (Or.inl q))
        · exact Or.inl (Or.inl (Or.inr q))
        · exact Or.inl (Or.inr q)
        · exact Or.inr ⟨o, by omega, q⟩
    · rintro o ⟨u, v⟩ o0 o1 _
      dsimp only
      obtain ⟨Q, hQ⟩ : ∃ Q : Int → Prop, Q = fun j => ((P j ∨ Rf J s j) ∨ Lg J s (600 * s + J 119 s) j) ∨ ∃ i, (0 ≤ i ∧ i < o) ∧ ((j = i ∧ Ro J s i) ∨ (0 < J 118 (120 * s + i) ∧ j = J 118 (120 * s + i) - 1)) := ⟨_, rfl⟩
      rw [← hQ]
      have e9 : ∀ f, rowU I (a + 1) f (st + 9) o = J 118 (120 * s + o) - 1 := fun f => by rw [rowU_ne (by omega)]; exact (N.2.2 o o0 o1).1
      have e24 : ∀ f, rowU I (a + 1) f (st + 24) o = (if J 126 (120 * s + o) = -1000 then -1 else J 126 (120 * s + o)) := fun f => by rw [rowU_ne (by omega)]; exact (S.1 o o0 o1).1
      have e25 : ∀ f, rowU I (a + 1) f (st + 25) o = J 127 (120 * s + o) := fun f => by rw [rowU_ne (by omega)]; exact (S.1 o o0 o1).2
      have DU : ∀ f, DC h (rowU I (a + 1) f) J (st + 1) s := fun f => DC_I W hd (fun c hc => rowU_ne (by omega)) D
      have g6 := G.2.2.1 (120 * s + o)
      have w8 := T.2.2.1 (120 * s + o)
      have wr := Wr (120 * s + o)
      -- young
      have yo : ∀ f, Go 86 41 [.inr (.inl (some st)), .inr (.inl (some a)), .inl (J 94 8), .inl o, u, v] [] (mI h (rowU I (a + 1) f)) = Go 86 70 [.inr (.inl (some st)), .inr (.inl (some a)), .inl (J 94 8), .inl o, .inl (J 118 (120 * s + o) - 1), v] [.inl (b01 (Th J s o ∧ J 94 8 - J 126 (120 * s + o) < 10))] (mI h (rowU I (a + 1) f)) := by
        intro f
        rw [b86_41 L L3 Ln (by omega), e24, e9]
        by_cases q0 : J 126 (120 * s + o) = -1000
        · rw [if_pos q0, if_pos rfl, b86_69, b01_f (fun t => by have := t.2; omega)]
        · rw [if_neg q0, if_neg (by omega), b86_54 L (by omega) (by rw [e24, if_neg q0]; omega), e24, if_neg q0]
          by_cases q1 : 10 ≤ J 94 8 - J 126 (120 * s + o)
          · rw [if_pos q1, b86_69, b01_f (fun t => by have := t.2; omega)]
          · rw [if_neg q1, b86_62 L L3, k37 L3 (DU f) M T.2.2.2.1 T.2.1 hs ⟨o0, o1⟩, caln_r, b86_66]
            by_cases q2 : Th J s o
            · rw [b01_t q2, if_neg neg1_ne, b86_67, b01_t ⟨q2, by omega⟩]
            · rw [b01_f q2, if_pos rfl, b86_69, b01_f (fun t => q2 t.1)]
      have mk : ∀ (Q2 : Int → Prop) (w : Int), Go 86 84 [.inr (.inl (some st)), .inr (.inl (some a)), .inl (J 94 8), .inl o, .inl (J 118 (120 * s + o) - 1), .inl w] [] (mI h (rowU I (a + 1) (ind Q2))) = Go 86 38 [.inr (.inl (some st)), .inr (.inl (some a)), .inl (J 94 8), .inl (o + 1), .inl (J 118 (120 * s + o) - 1), .inl w] [] (mI h (rowU I (a + 1) (ind (fun j => Q2 j ∨ ((0 ≤ j ∧ j < 100) ∧ j = J 118 (120 * s + o) - 1))))) := by
        intro Q2 w
        rw [b86_84 L7, k72 L7, caln_v, b86_87 (by omega)]
      have wrp := Rp s o hs o0
      have r118 : 0 < J 118 (120 * s + o) → J 118 (120 * s + o) - 1 < 100 := fun _ => by omega
      obtain ⟨w, hw⟩ : ∃ w, w = b01 (Th J s o ∧ J 94 8 - J 126 (120 * s + o) < 10) := ⟨_, rfl⟩
      rw [b86_38, if_neg (by omega), yo, b86_70 L (by omega), e25, ← hw]
      have ro : Ro J s o ↔ (J 127 (120 * s + o) ≠ 0 ∨ J 118 (120 * s + o) - 1 ≠ -1 ∨ w ≠ 0) := by
        unfold Ro
        rw [hw]
        constructor
        · rintro (q | q | q)
          · exact Or.inl q
          · exact Or.inr (Or.inl (by omega))
          · exact Or.inr (Or.inr (by rw [b01_t q]; decide))
        · rintro (q | q | q)
          · exact Or.inl q
          · exact Or.inr (Or.inl (by omega))
          · refine Or.inr (Or.inr (Classical.byContradiction fun r => ?_))
            rw [b01_f r] at q
            exact q rfl
      refine ⟨(.inl (J 118 (120 * s + o) - 1), .inl w), ?_, trivial⟩
      dsimp only
      have yes : Ro J s o → Go 86 81 [.inr (.inl (some st)), .inr (.inl (some a)), .inl (J 94 8), .inl o, .inl (J 118 (120 * s + o) - 1), .inl w] [] (mI h (rowU I (a + 1) (ind Q))) = Go 86 38 [.inr (.inl (some st)), .inr (.inl (some a)), .inl (J 94 8), .inl (o + 1), .inl (J 118 (120 * s + o) - 1), .inl w] [] (mI h (rowU I (a + 1) (ind (fun j => ((P j ∨ Rf J s j) ∨ Lg J s (600 * s + J 119 s) j) ∨ ∃ i, (0 ≤ i ∧ i < o + 1) ∧ ((j = i ∧ Ro J s i) ∨ (0 < J 118 (120 * s + i) ∧ j = J 118 (120 * s + i) - 1)))))) := by
        intro hr
        rw [b86_81 L7, k72 L7, caln_v, mk]
        rw [ind_c (fun j => ?_)]
        rw [hQ]
        constructor
        · rintro (((q | ⟨i, hi, q⟩) | ⟨hj, q⟩) | ⟨hj, q⟩)
          · exact Or.inl q
          · exact Or.inr ⟨i, by omega, q⟩
          · exact Or.inr ⟨o, by omega, Or.inl ⟨q, hr⟩⟩
          · exact Or.inr ⟨o, by omega, Or.inr ⟨by omega, q⟩⟩
        · rintro (q | ⟨i, hi, q⟩)
          · exact Or.inl (Or.inl (Or.inl q))
          · by_cases e : i = o
            · subst e
              obtain ⟨q, _⟩ | ⟨q, r⟩ := q
              · exact Or.inl (Or.inr ⟨by omega, q⟩)
              · have := r118 q
                exact Or.inr ⟨by omega, r⟩
            · exact Or.inl (Or.inl (Or.inr ⟨i, by omega, q⟩))
      by_cases c1 : J 127 (120 * s + o) ≠ 0
      · rw [if_pos c1]
        exact yes (ro.mpr (Or.inl c1))
      · rw [if_neg c1, b86_76]
        by_cases c2 : J 118 (120 * s + o) - 1 ≠ -1
        · rw [if_pos c2]
          exact yes (ro.mpr (Or.inr (Or.inl c2)))
        · rw [if_neg c2, b86_79]
          by_cases c3 : w = 0
          · rw [if_pos c3, mk]
            have nr : ¬Ro J s o := fun q => (ro.mp q).elim c1 (fun q => q.elim c2 (fun q => q c3))
            rw [ind_c (fun j => ?_)]
            rw [hQ]
            constructor
            · rintro ((q | ⟨i, hi, q⟩) | ⟨hj, q⟩)
              · exact Or.inl q
              · exact Or.inr ⟨i, by omega, q⟩
              · omega
            · rintro (q | ⟨i, hi, q⟩)
              · exact Or.inl (Or.inl q)
              · by_cases e : i = o
                · subst e
                  obtain ⟨_, q⟩ | ⟨q, _⟩ := q
                  · exact absurd q nr
                  · omega
                · exact Or.inl (Or.inr ⟨i, by omega, q⟩)
          · rw [if_neg c3]
            exact yes (ro.mpr (Or.inr (Or.inr c3)))
  · intro k k0 k1
    have s4 := S.2.2.2 k k0 k1
    have u29 : ∀ f, rowU I (a + 1) f (st + 29) k = J 123 (600 * s + k) - 1 := fun f => by rw [rowU_ne (by omega)]; exact s4.1
    have u30 : ∀ f, rowU I (a + 1) f (st + 30) k = J 124 (600 * s + k) - 1 := fun f => by rw [rowU_ne (by omega)]; exact s4.2.1
    have u31 : ∀ f, rowU I (a + 1) f (st + 31) k = J 125 (600 * s + k) := fun f => by rw [rowU_ne (by omega)]; exact s4.2.2
    have gl := G.1 s (600 * s + k) hs (by omega) (by omega)
    have g5 := G.2.1 (600 * s + k)
    rw [b86_5 L L3 Ln, e7, if_neg (by omega), b86_11, if_neg (by omega), b86_14 L (by omega) (by rw [u31]; omega), u31]
    by_cases c : 20 ≤ J 94 8 - J 125 (600 * s + k)
    · rw [if_pos c, b86_34 (by omega)]
      rw [ind_c (fun j => ?_)]
      constructor
      · rintro (q | ⟨i, i0, i1, q⟩)
        · exact Or.inl q
        · exact Or.inr ⟨i, i0, by omega, q⟩
      · rintro (q | ⟨i, i0, i1, q, r⟩)
        · exact Or.inl q
        · by_cases e : i = 600 * s + k
          · subst e; omega
          · exact Or.inr ⟨i, i0, by omega, q, r⟩
    · rw [if_neg c, b86_22 L (by omega) L7, u29, k72 L7, caln_v, b86_28 L (by omega) L7, u30, k72 L7, caln_v, b86_34 (by omega)]
      rw [ind_c (fun j => ?_)]
      constructor
      · rintro (((q | ⟨i, i0, i1, q⟩) | ⟨hj, q⟩) | ⟨hj, q⟩)
        · exact Or.inl q
        · exact Or.inr ⟨i, i0, by omega, q⟩
        · exact Or.inr ⟨600 * s + k, by omega, by omega, by omega, Or.inl ⟨by omega, q⟩⟩
        · exact Or.inr ⟨600 * s + k, by omega, by omega, by omega, Or.inr ⟨by omega, q⟩⟩
      · rintro (q | ⟨i, i0, i1, q, r⟩)
        · exact Or.inl (Or.inl (Or.inl q))
        · by_cases e : i = 600 * s + k
          · subst e
            obtain ⟨r0, r1⟩ | ⟨r0, r1⟩ := r
            · exact Or.inl (Or.inr ⟨by omega, r1⟩)
            · exact Or.inr ⟨by omega, r1⟩
          · exact Or.inl (Or.inl (Or.inr ⟨i, i0, by omega, q, r⟩))
