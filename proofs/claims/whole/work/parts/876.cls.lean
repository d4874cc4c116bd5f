/-! ===== the class (7): packs ===== -/
/-- a pack object is a pack of the reference -/
def PC (h : HP) (I J : Nat → Int → Int) (a : Nat) (p : Int) : Prop := LX 5 h a ∧ (140 ≤ a ∧ a + 5 < hN h) ∧ (I a 5 = J 111 p ∧ I a 6 = szN J p (J 111 p).toNat) ∧
  (∀ k, 0 ≤ k → k < J 111 p → (I (a + 1) k = J 112 (120 * p + k) ∧ I (a + 2) k = J 113 (120 * p + k)) ∧ I (a + 3) k = dpt J p k ∧ I (a + 5) k = J 114 (120 * p + k)) ∧ (∀ k, J 111 p ≤ k → k < 100 → I (a + 5) k = 0) ∧ ∀ o, 0 ≤ o → o < 100 → I (a + 4) o = eo J p o
theorem PC_I {h : HP} {I K J : Nat → Int → Int} {a : Nat} {p : Int} (H : ∀ b, a ≤ b → b ≤ a + 5 → K b = I b) : PC h K J a p = PC h I J a p := by
  unfold PC
  rw [H a (by omega) (by omega), H (a + 1) (by omega) (by omega), H (a + 2) (by omega) (by omega), H (a + 3) (by omega) (by omega), H (a + 4) (by omega) (by omega), H (a + 5) (by omega) (by omega)]
theorem k56 {h : HP} {I J : Nat → Int → Int} {a : Nat} {p x : Int} (C : PC h I J a p) : Go 56 0 [.inr (.inl (some a)), .inl x] [] (mI h I) = some (mI h I, .inl (some (.inl (if 0 ≤ x ∧ x < 100 then eo J p x else -1)))) := by
  rw [b56_0]
  by_cases h0 : x < 0
  · rw [if_pos h0, b56_10, b56_11, if_neg (by omega)]
  · rw [if_neg h0, b56_2]
    by_cases h1 : 100 ≤ x
    · rw [if_pos h1, b56_10, b56_11, if_neg (by omega)]
    · rw [if_neg h1, b56_5 C.1 (by omega), b56_11, if_pos (by omega), C.2.2.2.2.2 x (by omega) (by omega)]
theorem k57 {h : HP} {I J : Nat → Int → Int} {a : Nat} {p x : Int} (C : PC h I J a p) (hm : J 111 p ≤ 100) : Go 57 0 [.inr (.inl (some a)), .inl x] [] (mI h I) = some (mI h I, .inl (some (.inl (if 0 ≤ x ∧ x < J 111 p then J 112 (120 * p + x) else -1)))) := by
  rw [b57_0]
  by_cases h0 : x < 0
  · rw [if_pos h0, b57_11, b57_12, if_neg (by omega)]
  · rw [if_neg h0, b57_2 C.1, C.2.2.1.1]
    by_cases h1 : J 111 p ≤ x
    · rw [if_pos h1, b57_11, b57_12, if_neg (by omega)]
    · rw [if_neg h1, b57_6 C.1 (by omega), b57_12, if_pos (by omega), (C.2.2.2.1 x (by omega) (by omega)).1.1]
theorem k60 {h : HP} {I J : Nat → Int → Int} {a : Nat} {p x : Int} {v2 : MV} (C : PC h I J a p) (hm : 0 ≤ J 111 p ∧ J 111 p ≤ 100) (hx : 0 ≤ x ∧ x < 100) : Go 60 0 [.inr (.inl (some a)), .inl x, v2] [] (mI h I) = some (mI h I, .inl (some (.inl (b01 (0 ≤ eo J p x ∧ J 114 (120 * p + eo J p x) ≠ 0))))) := by
  have hb := eo_b (I := J) (p := p) (o := x) hm.1
  rw [b60_0 C.1, k56 C, if_pos hx, caln_r, b60_3]
  by_cases h0 : eo J p x = -1
  · rw [if_pos h0, b60_14, b60_15 (Or.inl rfl), b01_f (by omega)]
  · have e := (C.2.2.2.1 (eo J p x) (by omega) hb.2.1).2.2
    rw [if_neg h0, b60_7 C.1 (by omega), e]
    by_cases h1 : J 114 (120 * p + eo J p x) = 0
    · rw [if_pos h1, b60_14, b60_15 (Or.inl rfl), b01_f (fun q => q.2 h1)]
    · rw [if_neg h1, b60_12, b60_15 (Or.inr rfl), b01_t ⟨by omega, h1⟩]
theorem k61 {h : HP} {I J : Nat → Int → Int} {a : Nat} {p x : Int} {v2 v3 : MV} (C : PC h I J a p) (K : WK J) (hp : 0 ≤ p ∧ p < 40) (hx : 0 ≤ x ∧ x < 100) : Go 61 0 [.inr (.inl (some a)), .inl x, v2, v3] [] (mI h I) = some (mI h I, .inl (some (.inl (b01 (0 ≤ eo J p x ∧ GE J p (eo J p x)))))) := by
  have hk := K.2 p hp.1 hp.2
  have hb := eo_b (I := J) (p := p) (o := x) hk.1.1
  rw [b61_0 C.1, k56 C, if_pos hx, caln_r, b61_3]
  by_cases h0 : eo J p x = -1
  · rw [if_neg (fun q => q h0), b61_7, b01_f (by omega)]
  · have h00 : 0 ≤ eo J p x := by omega
    rw [if_pos h0, b61_9, b01_c (q := GE J p (eo J p x)) ⟨And.right, fun q => ⟨h00, q⟩⟩]
    refine lpQ (fun r (z : Int) => Go 61 11 [.inr (.inl (some a)), .inl x, .inl z, .inl r] [] (mI h I)) (fun r z => (-1 ≤ z ∧ z < J 111 p ∧ z + r < 100) ∧ (GE J p (eo J p x) ↔ (0 ≤ z → GE J p z))) (fun r => r = some (mI h I, .inl (some (.inl (b01 (GE J p (eo J p x))))))) 0 100 (by omega) ?_ ?_ (eo J p x) ⟨by omega, ⟨fun g _ => g, fun g => g h00⟩⟩
    · rintro r z r0 r1 ⟨⟨z0, z1, z2⟩, hg⟩
      rw [b61_11, if_neg (by omega), b61_14]
      by_cases hz : z < 0
      · left
        rw [if_pos hz, b61_34, b01_t (hg.mpr (fun q => by omega))]
      · have e := C.2.2.2.1 z (by omega) z1
        have w := (hk.2 z (by omega) z1).2
        rw [if_neg hz, b61_16 C.1, C.2.2.1.1, if_neg (by omega), b61_20 C.1 (by omega), e.2.2]
        by_cases hs : J 114 (120 * p + z) = 0
        · right
          refine ⟨J 113 (120 * p + z), ?_, by omega, ?_⟩
          · rw [if_pos hs, b61_27 C.1 (by omega) (by omega), e.1.2]
          · rw [hg]
            exact ⟨fun g => (GE_e.mp (g (by omega))).2, fun g _ => GE_e.mpr ⟨hs, g⟩⟩
        · left
          rw [if_neg hs, b61_25, b01_f (fun g => hs (GE_e.mp (hg.mp g (by omega))).1)]
    · rintro z ⟨⟨z0, z1, z2⟩, hg⟩
      rw [b61_11, if_pos (by decide), b61_34, b01_t (hg.mpr (fun q => by omega))]
theorem k62 {h : HP} {I J : Nat → Int → Int} {a b : Nat} {p : Int} {P : Int → Prop} {v2 : MV} (C : PC h I J a p) (Lb : hK h b = (1, 100)) (K : WK J) (hT : J 94 0 ≤ 100) (hp : 0 ≤ p ∧ p < 40) (hb : I b = ind P) : Go 62 0 [.inr (.inl (some a)), .inr (.inl (some b)), v2] [] (mI h I) = some (mI h I, .inl (some (.inl (b01 (∃ k, (0 ≤ k ∧ k < J 111 p) ∧ P (J 112 (120 * p + k))))))) := by
  have hk := K.2 p hp.1 hp.2
  rw [b62_0]
  refine lpQ (fun k (_ : Unit) => Go 62 2 [.inr (.inl (some a)), .inr (.inl (some b)), .inl k] [] (mI h I)) (fun k _ => ∀ i, 0 ≤ i → i < k → ¬P (J 112 (120 * p + i))) (fun r => r = some (mI h I, .inl (some (.inl (b01 (∃ k, (0 ≤ k ∧ k < J 111 p) ∧ P (J 112 (120 * p + k)))))))) 0 (J 111 p) hk.1.1 ?_ ?_ () (fun i a b => by omega)
  · intro k _ k0 k1 hq
    have e := (C.2.2.2.1 k k0 k1).1.1
    have w := (hk.2 k k0 k1).1
    have e2 : I b (J 112 (120 * p + k)) = b01 (P (J 112 (120 * p + k))) := by rw [hb]; rfl
    have h13 : Go 62 2 [.inr (.inl (some a)), .inr (.inl (some b)), .inl k] [] (mI h I) = if b01 (P (J 112 (120 * p + k))) = 0 then Go 62 22 [.inr (.inl (some a)), .inr (.inl (some b)), .inl k] [] (mI h I) else Go 62 20 [.inr (.inl (some a)), .inr (.inl (some b)), .inl k] [] (mI h I) := by
      rw [b62_2 C.1, C.2.2.1.1, if_neg (by omega), b62_6 C.1 (by omega) Lb, e, if_neg (by omega), b62_13 C.1 (by omega) Lb (by rw [e]; omega), e, e2]
    by_cases q : P (J 112 (120 * p + k))
    · left
      rw [h13, b01_t q, if_neg neg1_ne, b62_20, b01_t ⟨k, ⟨k0, k1⟩, q⟩]
    · right
      refine ⟨(), by rw [h13, b01_f q, if_pos rfl, b62_22 (by omega)], fun i a b => ?_⟩
      by_cases hi : i = k
      · subst hi; exact q
      · exact hq i a (by omega)
  · intro _ hq
    rw [b62_2 C.1, C.2.2.1.1, if_pos (Int.le_refl _), b62_24, b01_f (fun ⟨k, hk, q⟩ => hq k hk.1 hk.2 q)]
theorem k58 {h : HP} {I J : Nat → Int → Int} {a : Nat} {p x : Int} (L : LX 5 h a) (hc : I a 5 = J 111 p) (hd : ∀ k, 0 ≤ k → k < J 111 p → I (a + 3) k = dpt J p k) (hm : J 111 p ≤ 100) : Go 58 0 [.inr (.inl (some a)), .inl x] [] (mI h I) = some (mI h I, .inl (some (.inl (if 0 ≤ x ∧ x < J 111 p then dpt J p x else -1)))) := by
  rw [b58_0]
  by_cases h0 : x < 0
  · rw [if_pos h0, b58_11, b58_12, if_neg (by omega)]
  · rw [if_neg h0, b58_2 L, hc]
    by_cases h1 : J 111 p ≤ x
    · rw [if_pos h1, b58_11, b58_12, if_neg (by omega)]
    · rw [if_neg h1, b58_6 L (by omega), b58_12, if_pos (by omega), hd x (by omega) (by omega)]
theorem dpt_en {J : Nat → Int → Int} {p o b k : Int} (h0 : 0 ≤ k) (h1 : k < J 111 p) (hw : ∀ i, 0 ≤ i → i ≤ k → J 113 (120 * p + i) < i) : dpt (en J p o b) p k = dpt J p k := by
  unfold dpt
  refine (dF_c _ k h0 (fun i i0 i1 => ⟨hw i i0 i1, ?_⟩)).symm
  rw [en_113, up1_ne (by omega)]
theorem dpt_enn {J : Nat → Int → Int} {p o b : Int} (h0 : 0 ≤ J 111 p) (hb : b < J 111 p) (hw : ∀ i, 0 ≤ i → i < J 111 p → J 113 (120 * p + i) < i) : dpt (en J p o b) p (J 111 p) = if b < 0 then 0 else 1 + dpt J p b := by
  have e13 : en J p o b 113 (120 * p + J 111 p) = b := by rw [en_113, up1_eq]
  rw [dpt_e h0 (fun i i0 i1 => by
    rw [en_113]
    by_cases hi : i = J 111 p
    · rw [hi, up1_eq]; exact hb
    · rw [up1_ne (by omega)]; exact hw i i0 (by omega)), e13]
  by_cases hn : b < 0
  · rw [if_pos hn, if_pos hn]
  · rw [if_neg hn, if_neg hn, dpt_en (by omega) hb (fun i i0 i1 => hw i i0 (by omega))]
theorem eo_en {J : Nat → Int → Int} {p o b x : Int} (h0 : 0 ≤ J 111 p) : eo (en J p o b) p x = if x = o then J 111 p else eo J p x := by
  unfold eo
  rw [en_111, up1_eq]
  have e12 : en J p o b 112 (120 * p + J 111 p) = o := by rw [en_112, up1_eq]
  rw [lastP_s h0, e12]
  by_cases hx : x = o
  · rw [if_pos hx.symm, if_pos hx]
  · rw [if_neg (fun q => hx q.symm), if_neg hx]
    have key : ∀ n : Nat, (n : Int) ≤ J 111 p → lastP (fun k => en J p o b 112 (120 * p + k) = x) n = lastP (fun k => J 112 (120 * p + k) = x) n := by
      intro n
      induction n with
      | zero => intro _; rfl
      | succ n ih =>
        intro hn
        have e : en J p o b 112 (120 * p + (n : Int)) = J 112 (120 * p + n) := by rw [en_112, up1_ne (by omega)]
        unfold lastP
        rw [ih (by omega), e]
    exact key _ (by omega)
theorem szN_en {J : Nat → Int → Int} {p o b : Int} (K : WK J) (hp : 0 ≤ p ∧ p < 40) (hb : b < J 111 p) : szN (en J p o b) p (J 111 p + 1).toNat = szN J p (J 111 p).toNat + (if b < 0 then J 96 o else dlt J o (J 112 (120 * p + b))) := by
  have hk := K.2 p hp.1 hp.2
  have key : ∀ n : Nat, (n : Int) ≤ J 111 p → szN (en J p o b) p n = szN J p n := by
    intro n
    induction n with
    | zero => intro _; rfl
    | succ n ih =>
      intro hn
      have w := hk.2 n (by omega) (by omega)
      unfold szN
      rw [ih (by omega)]
      congr 1
      unfold sz1
      have e3 : en J p o b 113 (120 * p + (n : Int)) = J 113 (120 * p + n) := by rw [en_113, up1_ne (by omega)]
      have e2 : en J p o b 112 (120 * p + (n : Int)) = J 112 (120 * p + n) := by rw [en_112, up1_ne (by omega)]
      rw [e3, e2]
      by_cases hz : J 113 (120 * p + (n : Int)) < 0
      · rw [if_pos hz, if_pos hz, en_f (by omega)]
      · have e22 : en J p o b 112 (120 * p + J 113 (120 * p + (n : Int))) = J 112 (120 * p + J 113 (120 * p + (n : Int))) := by rw [en_112, up1_ne (by omega)]
        rw [if_neg hz, if_neg hz, e22]
        unfold dlt hdI tlI hdI lsI
        rw [en_f (a := 96) (by omega), en_f (a := 97) (by omega)]
  rw [szN_s hk.1.1, key _ (by omega)]
  congr 1
  unfold sz1
  have e3 : en J p o b 113 (120 * p + J 111 p) = b := by rw [en_113, up1_eq]
  have e2 : en J p o b 112 (120 * p + J 111 p) = o := by rw [en_112, up1_eq]
  rw [e3, e2]
  by_cases hz : b < 0
  · rw [if_pos hz, if_pos hz, en_f (by omega)]
  · have e22 : en J p o b 112 (120 * p + b) = J 112 (120 * p + b) := by rw [en_112, up1_ne (by omega)]
    rw [if_neg hz, if_neg hz, e22]
    unfold dlt hdI tlI hdI lsI
    rw [en_f (a := 96) (by omega), en_f (a := 97) (by omega)]
