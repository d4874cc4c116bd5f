/-! ===== the class (8): an entry more; sizes ===== -/
theorem k59 {h : HP} {I J : Nat → Int → Int} {a : Nat} {p o b z : Int} (C : PC h I J a p) (W : WB J) (K : WK J) (hp : 0 ≤ p ∧ p < 40) (ho : 0 ≤ o ∧ o < J 94 0) (hb : -1 ≤ b ∧ b < J 111 p) (hz : z = if b < 0 then J 96 o else dlt J o (J 112 (120 * p + b))) (hm : J 111 p < 100) :
    ∃ I1, Go 59 0 [.inr (.inl (some a)), .inl o, .inl b, .inl z] [] (mI h I) = some (mI h I1, .inl (some (.inl (J 111 p)))) ∧ (∀ c, c < a ∨ a + 5 < c → I1 c = I c) ∧ PC h I1 (en J p o b) a p := by
  have hT := W.1
  have hk := K.2 p hp.1 hp.2
  have L := C.1
  obtain ⟨n, hn⟩ : ∃ n, n = J 111 p := ⟨_, rfl⟩
  have n0 : 0 ≤ n := by omega
  have hc5 : I a 5 = n := by rw [C.2.2.1.1, hn]
  have hs := szN_b W K hp n.toNat (by omega)
  have hc6 : I a 6 = szN J p n.toNat := by rw [C.2.2.1.2, hn]
  have hzb : 0 ≤ z ∧ z ≤ 14 := by
    have wo := (W.2 o ho.1 ho.2).1
    rw [hz]
    split
    · omega
    · have hk2 := (hk.2 b (by omega) hb.2).1
      have w2 := (W.2 _ hk2.1 hk2.2).1
      have := dlt_b (I := J) (o := o) (b := J 112 (120 * p + b)) ⟨wo.2.2.1, wo.2.2.2.1⟩ ⟨w2.2.2.1, w2.2.2.2.1⟩
      omega
  obtain ⟨I1, hI1⟩ : ∃ I1, I1 = zu2 (zu2 I (a + 1) n o) (a + 2) n b := ⟨_, rfl⟩
  have I1a : I1 a = I a := by rw [hI1, zu2_row, rowU_ne (by omega), zu2_row, rowU_ne (by omega)]
  have I13 : I1 (a + 3) = I (a + 3) := by rw [hI1, zu2_row, rowU_ne (by omega), zu2_row, rowU_ne (by omega)]
  have e5 : zu2 I (a + 1) n o a 5 = n := by rw [zu2_row, rowU_ne (by omega), hc5]
  have e55 : I1 a 5 = n := by rw [I1a, hc5]
  obtain ⟨dd, hdd⟩ : ∃ dd, dd = if b < 0 then 0 else 1 + dpt J p b := ⟨_, rfl⟩
  have hd58 : (if 0 ≤ b ∧ b < J 111 p then dpt J p b else -1) + 1 = dd := by
    rw [hdd]
    by_cases h0 : b < 0
    · rw [if_neg (by omega), if_pos h0]; rfl
    · rw [if_pos (by omega), if_neg h0]; omega
  have hddb : 0 ≤ dd ∧ dd ≤ 200 := by
    rw [hdd]
    split
    · omega
    · have := dpt_b (I := J) (p := p) (e := b) (by omega); omega
  obtain ⟨I2, hI2⟩ : ∃ I2, I2 = zu2 (zu2 (zu2 (zu2 I1 (a + 3) n dd) (a + 4) o n) a 6 (szN J p n.toNat + z)) a 5 (n + 1) := ⟨_, rfl⟩
  have g1 : zu2 I1 (a + 3) n dd a 5 = n := by rw [zu2_row, rowU_ne (by omega), e55]
  have g2 : zu2 (zu2 I1 (a + 3) n dd) (a + 4) o n a 6 = szN J p n.toNat := by rw [zu2_row, rowU_ne (by omega), zu2_row, rowU_ne (by omega), I1a, hc6]
  have g3 : zu2 (zu2 (zu2 I1 (a + 3) n dd) (a + 4) o n) a 6 (szN J p n.toNat + z) a 5 = n := by rw [zu2_row, rowU_eq, up1_ne (by decide), zu2_row, rowU_ne (by omega), g1]
  have g4 : zu2 (zu2 (zu2 (zu2 I1 (a + 3) n dd) (a + 4) o n) a 6 (szN J p n.toNat + z)) a 5 (n + 1) a 5 = n + 1 := by rw [zu2_row, rowU_eq, up1_eq]
  have r0 : I2 a = up1 (up1 (I a) 6 (szN J p n.toNat + z)) 5 (n + 1) := by
    rw [hI2, zu2_row, rowU_eq, zu2_row, rowU_eq, zu2_row, rowU_ne (by omega), zu2_row, rowU_ne (by omega), I1a]
  have r1 : I2 (a + 1) = up1 (I (a + 1)) n o := by
    rw [hI2, zu2_row, rowU_ne (by omega), zu2_row, rowU_ne (by omega), zu2_row, rowU_ne (by omega), zu2_row, rowU_ne (by omega), hI1, zu2_row, rowU_ne (by omega), zu2_row, rowU_eq]
  have r2 : I2 (a + 2) = up1 (I (a + 2)) n b := by
    rw [hI2, zu2_row, rowU_ne (by omega), zu2_row, rowU_ne (by omega), zu2_row, rowU_ne (by omega), zu2_row, rowU_ne (by omega), hI1, zu2_row, rowU_eq, zu2_row, rowU_ne (by omega)]
  have r3 : I2 (a + 3) = up1 (I (a + 3)) n dd := by
    rw [hI2, zu2_row, rowU_ne (by omega), zu2_row, rowU_ne (by omega), zu2_row, rowU_ne (by omega), zu2_row, rowU_eq, I13]
  have r4 : I2 (a + 4) = up1 (I (a + 4)) o n := by
    rw [hI2, zu2_row, rowU_ne (by omega), zu2_row, rowU_ne (by omega), zu2_row, rowU_eq, zu2_row, rowU_ne (by omega), hI1, zu2_row, rowU_ne (by omega), zu2_row, rowU_ne (by omega)]
  have rf : ∀ c, c ≠ a → c ≠ a + 1 → c ≠ a + 2 → c ≠ a + 3 → c ≠ a + 4 → I2 c = I c := fun c q0 q1 q2 q3 q4 => by
    rw [hI2, zu2_row, rowU_ne q0, zu2_row, rowU_ne q0, zu2_row, rowU_ne q4, zu2_row, rowU_ne q3, hI1, zu2_row, rowU_ne q2, zu2_row, rowU_ne q1]
  refine ⟨I2, ?_, fun c hc => rf c (by omega) (by omega) (by omega) (by omega) (by omega), C.1, C.2.1, ⟨?_, ?_⟩, fun k k0 k1 => ?_, fun k k0 k1 => ?_, fun x x0 x1 => ?_⟩
  · have hd2 : ∀ k, 0 ≤ k → k < J 111 p → I1 (a + 3) k = dpt J p k := fun k k0 k1 => by rw [I13]; exact (C.2.2.2.1 k k0 k1).2.1
    rw [b59_0, if_neg (by omega), b59_2, if_neg (by omega), b59_5 L, hc5, if_pos (by omega), b59_11 L (by omega) (by rw [hc5, e5]; omega), hc5, e5, ← hI1, e55, k58 (J := J) (p := p) L (by rw [e55, hn]) hd2 (by omega), caln_r, b59_30 (by rw [hd58]; omega) L (by omega) (by omega) (by rw [hd58, g1, g2]; omega) (by rw [hd58, g1, g2, g3]; omega) (by rw [hd58, g1, g2, g3, g4]; omega), hd58, g1, g2, g3, ← hI2]
    congr 5
    rw [hI2, g4]
    omega
  · rw [r0, up1_eq, en_111, up1_eq, hn]
  · rw [r0, up1_ne (by decide), up1_eq, en_111, up1_eq, szN_en K hp hb.2, hz, hn]
  · rw [en_111, up1_eq] at k1
    by_cases hkn : k = n
    · subst hkn
      rw [r1, r2, r3, rf (a + 5) (by omega) (by omega) (by omega) (by omega) (by omega), up1_eq, up1_eq, up1_eq, en_112, en_113, en_114, ← hn, up1_eq, up1_eq, up1_eq]
      refine ⟨⟨rfl, rfl⟩, ?_, C.2.2.2.2.1 k (by omega) (by omega)⟩
      have := dpt_enn (J := J) (p := p) (o := o) (b := b) hk.1.1 hb.2 (fun i i0 i1 => (hk.2 i i0 i1).2.2)
      rw [← hn] at this
      rw [this, hdd]
    · have q := C.2.2.2.1 k k0 (by omega)
      rw [r1, r2, r3, rf (a + 5) (by omega) (by omega) (by omega) (by omega) (by omega), up1_ne hkn, up1_ne hkn, up1_ne hkn, en_112, en_113, en_114, up1_ne (by omega), up1_ne (by omega), up1_ne (by omega), dpt_en k0 (by omega) (fun i i0 i1 => (hk.2 i i0 (by omega)).2.2)]
      exact q
  · rw [en_111, up1_eq] at k0
    rw [rf (a + 5) (by omega) (by omega) (by omega) (by omega) (by omega)]
    exact C.2.2.2.2.1 k (by omega) k1
  · rw [r4, eo_en hk.1.1]
    by_cases hxo : x = o
    · rw [hxo, up1_eq, if_pos rfl, hn]
    · rw [up1_ne hxo, if_neg hxo]
      exact C.2.2.2.2.2 x x0 x1
/-- the size with a base as the class tells it -/
noncomputable def sW (J : Nat → Int → Int) (x y : Int) : Int := if J 95 x = J 95 y then dlt J x y else J 96 x
theorem kdO_t {J : Nat → Int → Int} {x : Int} (h : 0 ≤ x ∧ x < J 94 0) : kdO J x = J 95 x := if_pos h
theorem lnO_t {J : Nat → Int → Int} {x : Int} (h : 0 ≤ x ∧ x < J 94 0) : lnO J x = J 96 x := if_pos h
theorem nuO_t {J : Nat → Int → Int} {x j : Int} (h : 0 ≤ x ∧ x < J 94 0) (hj : 0 ≤ j ∧ j < J 96 x) : nuO J x j = J 97 (12 * x + j) := if_pos ⟨h, hj⟩
theorem k69 {h : HP} {I J : Nat → Int → Int} {x y : Int} {v3 v4 v5 v6 v7 : MV} (L0 : LX 0 h 2) (L : LX 6 h 81) (B : BC I J) (R : RB J) (hx : 0 ≤ x ∧ x < J 94 0) (hy : 0 ≤ y ∧ y < J 94 0) :
    Go 69 0 [.inr (.inl (some 81)), .inl x, .inl y, v3, v4, v5, v6, v7] [] (mI h I) = some (mI h I, .inl (some (.inl (sW J x y)))) := by
  have wx := (R.1.2 x hx.1 hx.2).1
  have wy := (R.1.2 y hy.1 hy.2).1
  rw [b69_0 L L0, k5 L0 B R, lnO_t hx, caln_r, b69_4 L L0, k3 L0 B R, kdO_t hx, caln_r, b69_9 L L0, k3 L0 B R, kdO_t hy, caln_r, b69_13]
  unfold sW
  by_cases hk : J 95 x = J 95 y
  · rw [if_pos hk, if_pos hk, b69_16 L L0, k5 L0 B R, lnO_t hy, caln_r, b69_20]
    have hl : 0 ≤ lsI J x y ∧ lsI J x y ≤ J 96 x ∧ lsI J x y ≤ J 96 y := by
      unfold lsI
      split <;> omega
    have h30 : (if J 96 y ≤ J 96 x then Go 69 26 [.inr (.inl (some 81)), .inl x, .inl y, .inl (J 96 x), .inl (J 96 y), v5, v6, v7] [] (mI h I) else Go 69 24 [.inr (.inl (some 81)), .inl x, .inl y, .inl (J 96 x), .inl (J 96 y), v5, v6, v7] [] (mI h I)) = Go 69 30 [.inr (.inl (some 81)), .inl x, .inl y, .inl (J 96 x), .inl (J 96 y), .inl (lsI J x y), .inl 0, v7] [] (mI h I) := by
      unfold lsI
      by_cases hc : J 96 y ≤ J 96 x
      · rw [if_pos hc, if_pos hc, b69_26, b69_27]
      · rw [if_neg hc, if_neg hc, b69_24, b69_27]
    rw [h30]
    have e1 := lpP (fun i => J 97 (12 * x + i) = J 97 (12 * y + i)) (fun k => Go 69 30 [.inr (.inl (some 81)), .inl x, .inl y, .inl (J 96 x), .inl (J 96 y), .inl (lsI J x y), .inl k, v7] [] (mI h I)) (fun k => Go 69 46 [.inr (.inl (some 81)), .inl x, .inl y, .inl (J 96 x), .inl (J 96 y), .inl (lsI J x y), .inl k, v7] [] (mI h I)) (lsI J x y) ?_ ?_ ?_ hl.1
    · have hh := pf_b (p := fun i => J 97 (12 * x + i) = J 97 (12 * y + i)) (lsI J x y).toNat 0
      have e0 : pf (fun i => J 97 (12 * x + i) = J 97 (12 * y + i)) (lsI J x y).toNat 0 = hdI J x y := rfl
      rw [e0] at hh
      have e2 := lpP (fun i => J 97 (12 * x + J 96 x - 1 - i) = J 97 (12 * y + J 96 y - 1 - i)) (fun k => Go 69 48 [.inr (.inl (some 81)), .inl x, .inl y, .inl (J 96 x), .inl (J 96 y), .inl (lsI J x y), .inl (hdI J x y), .inl k] [] (mI h I)) (fun k => Go 69 74 [.inr (.inl (some 81)), .inl x, .inl y, .inl (J 96 x), .inl (J 96 y), .inl (lsI J x y), .inl (hdI J x y), .inl k] [] (mI h I)) (lsI J x y - hdI J x y) ?_ ?_ ?_ (by omega)
      · have ht := pf_b (p := fun i => J 97 (12 * x + J 96 x - 1 - i) = J 97 (12 * y + J 96 y - 1 - i)) (lsI J x y - hdI J x y).toNat 0
        have e3 : pf (fun i => J 97 (12 * x + J 96 x - 1 - i) = J 97 (12 * y + J 96 y - 1 - i)) (lsI J x y - hdI J x y).toNat 0 = tlI J x y := rfl
        rw [e3] at ht
        rw [e1, e0, b69_46, e2, e3, b69_74 (by omega) (by omega) (by omega)]
        rfl
      · intro k k0 k1 hp
        rw [b69_48 (by omega), if_neg (by omega), b69_53 L (by omega) (by omega) L0, k6 L0 B R, nuO_t hx (by omega), caln_r, b69_62 L (by omega) (by omega) L0, k6 L0 B R, nuO_t hy (by omega), caln_r, b69_71, if_neg (fun q => q (by rw [show 12 * x + (J 96 x - 1 - k) = 12 * x + J 96 x - 1 - k by omega, show 12 * y + (J 96 y - 1 - k) = 12 * y + J 96 y - 1 - k by omega]; exact hp)), b69_72 (by omega)]
      · intro k k0 k1 hp
        rw [b69_48 (by omega), if_neg (by omega), b69_53 L (by omega) (by omega) L0, k6 L0 B R, nuO_t hx (by omega), caln_r, b69_62 L (by omega) (by omega) L0, k6 L0 B R, nuO_t hy (by omega), caln_r, b69_71, if_pos (by rw [show 12 * x + (J 96 x - 1 - k) = 12 * x + J 96 x - 1 - k by omega, show 12 * y + (J 96 y - 1 - k) = 12 * y + J 96 y - 1 - k by omega]; exact hp)]
      · rw [b69_48 (by omega), if_pos (Int.le_refl _)]
    · intro k k0 k1 hp
      rw [b69_30, if_neg (by omega), b69_33 L L0, k6 L0 B R, nuO_t hx (by omega), caln_r, b69_38 L L0, k6 L0 B R, nuO_t hy (by omega), caln_r, b69_43, if_neg (fun q => q hp), b69_44 (by omega)]
    · intro k k0 k1 hp
      rw [b69_30, if_neg (by omega), b69_33 L L0, k6 L0 B R, nuO_t hx (by omega), caln_r, b69_38 L L0, k6 L0 B R, nuO_t hy (by omega), caln_r, b69_43, if_pos hp]
    · rw [b69_30, if_pos (Int.le_refl _)]
  · rw [if_neg hk, if_neg hk, b69_14]
/-- who goes ahead into a pack -/
theorem k66 {h : HP} {I J : Nat → Int → Int} {x y : Int} {v3 v4 : MV} (L0 : LX 0 h 2) (L : LX 6 h 81) (B : BC I J) (R : RB J) (hx : 0 ≤ x ∧ x < J 94 0) (hy : 0 ≤ y ∧ y < J 94 0) :
    Go 66 0 [.inr (.inl (some 81)), .inl x, .inl y, v3, v4] [] (mI h I) = some (mI h I, .inl (some (.inl (b01 (J 95 x < J 95 y ∨ (J 95 x = J 95 y ∧ J 96 y < J 96 x)))))) := by
  rw [b66_0 L L0, k3 L0 B R, kdO_t hx, caln_r, b66_4 L L0, k3 L0 B R, kdO_t hy, caln_r, b66_9]
  by_cases hk : J 95 x = J 95 y
  · rw [if_pos hk, b66_20 L L0, k5 L0 B R, lnO_t hx, caln_r, b66_24 L L0, k5 L0 B R, lnO_t hy, caln_r, b66_28]
    by_cases hl : J 96 x ≤ J 96 y
    · rw [if_pos hl, b66_31, b66_32 (Or.inl rfl), b01_f (by omega)]
    · rw [if_neg hl, b66_29, b66_32 (Or.inr rfl), b01_t (by omega)]
  · rw [if_neg hk, b66_13]
    by_cases hl : J 95 y ≤ J 95 x
    · rw [if_pos hl, b66_18, b66_32 (Or.inl rfl), b01_f (by omega)]
    · rw [if_neg hl, b66_16, b66_32 (Or.inr rfl), b01_t (by omega)]
