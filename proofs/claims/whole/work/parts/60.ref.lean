/-! ===== the reference's methods (11): references, whole, seen as ===== -/
def nm (I : Nat → Int → Int) (x : Int) : Int := if x = 0 then -1 else I 98 (x - 1)
theorem r220 {h : HP} {I : Nat → Int → Int} {x : Int} (L : LX 11 h 94) (hx : 0 ≤ x ∧ x ≤ 120) : Go 220 0 [.inr (.inl (some 94)), .inl x] [] (mI h I) = some (mI h I, .inl (some (.inl (nm I x)))) := by
  rw [b220_0]
  unfold nm
  by_cases h0 : x = 0
  · rw [if_neg (fun q => q h0), b220_2, b220_10, if_pos h0]
  · rw [if_pos h0, b220_4 L (by omega) (by omega), b220_10, if_neg h0]
theorem r221 {h : HP} {I : Nat → Int → Int} {s k : Int} (L : LX 11 h 94) (ht : 0 ≤ I 94 0 ∧ I 94 0 ≤ 120) (R : WR I) : Go 221 0 [.inr (.inl (some 94)), .inl s, .inl k] [] (mI h I) = aq h ((s = 0 ∨ s = 1) ∧ 0 ≤ k ∧ k ≤ 5) (tH I 0) (nm I (I 115 (6 * s + k))) I 1 := by
  have bad : Go 221 9 [.inr (.inl (some 94)), .inl s, .inl k] [.inr (.inl (some 94))] (mI h I) = some (mI h (tH I 1), .inl (some (.inl 0))) := by
    rw [b221_9, b221_10 L, zu2_tI, tH_49, if_neg (by decide), b221_14, b221_26]
  rw [b221_0, r164, caln_r, b221_3]
  by_cases hs : s = 0 ∨ s = 1
  · rw [b01_t hs, if_neg neg1_ne, b221_4, r216, caln_r, b221_6]
    by_cases hk : 0 ≤ k ∧ k ≤ 5
    · have hr := R (6 * s + k) (by omega) (by omega)
      rw [aq_t ⟨hs, hk⟩, b01_t hk, if_neg neg1_ne, b221_7, b221_10 L, zu2_tI, tH_49, if_pos (by decide), b221_16 L (by omega) (by omega) (by omega), tH_n (by decide), r220 L (by omega), caln_r, b221_26]
      rfl
    · rw [aq_f (fun q => hk q.2), b01_f hk, if_pos rfl, bad]
  · rw [aq_f (fun q => hs q.1), b01_f hs, if_pos rfl, bad]
theorem r222 {h : HP} {I : Nat → Int → Int} {s : Int} (L : LX 11 h 94) : Go 222 0 [.inr (.inl (some 94)), .inl s] [] (mI h I) = aq h (s = 0 ∨ s = 1) (tH I 0) (I 119 s) I 1 := by
  rw [b222_0 L, r210 L]
  by_cases hs : s = 0 ∨ s = 1
  · rw [aq_t hs, aq_t hs, caln_r, b222_3, if_neg neg1_ne, b222_4 L (by omega), b222_10, tH_n (by decide)]
  · rw [aq_f hs, aq_f hs, caln_r, b222_3, if_pos rfl, b222_9, b222_10]
theorem r224 {h : HP} {I : Nat → Int → Int} {s x : Int} (L : LX 11 h 94) (ht : 0 ≤ I 94 0 ∧ I 94 0 ≤ 120) : Go 224 0 [.inr (.inl (some 94)), .inl s, .inl x] [] (mI h I) = aq h (qI I s x) (tH I 0) (b01 (I 116 (120 * s + fnd I x) ≠ 0)) I 1 := by
  have hf := fnd_lt (I := I) (x := x) ht.1
  rw [b224_0 L, r208 L ht]
  by_cases hq : qI I s x
  · have hs := hq.1
    have hx := hq.2
    rw [aq_t hq, aq_t hq, caln_r, b224_4, if_neg neg1_ne, b224_5 L (by omega), r165 L (by rw [tH_94 (by decide)]; exact ht), fnd_tH, caln_r, b224_13 (by omega) L (by omega), tH_n (by decide)]
    by_cases h6 : I 116 (120 * s + fnd I x) = 0
    · rw [if_pos h6, b224_18, b224_19 (Or.inl rfl), b01_f (p := I 116 (120 * s + fnd I x) ≠ 0) (fun q => q h6)]
    · rw [if_neg h6, b224_16, b224_19 (Or.inr rfl), b01_t (p := I 116 (120 * s + fnd I x) ≠ 0) h6]
  · rw [aq_f hq, aq_f hq, caln_r, b224_4, if_pos rfl, b224_18, b224_19 (Or.inl rfl)]
/-- the object as which a version is seen in a store -/
def sa (I : Nat → Int → Int) (s o : Int) : Int := if I 118 (120 * s + o) = 0 then o else I 118 (120 * s + o) - 1
theorem r225 {h : HP} {I : Nat → Int → Int} {s o : Int} {v3 : MV} (L : LX 11 h 94) (N : WN I) (hs : s = 0 ∨ s = 1) (ho : 0 ≤ o ∧ o < 120) : Go 225 0 [.inr (.inl (some 94)), .inl s, .inl o, v3] [] (mI h I) = some (mI h I, .inl (some (.inl (sa I s o)))) := by
  have hr := N (120 * s + o)
  rw [b225_0 L (by omega) (by omega) (by omega)]
  unfold sa
  by_cases h0 : I 118 (120 * s + o) = 0
  · rw [if_neg (fun q => q h0), if_pos h0, b225_11, b225_16]
  · rw [if_pos h0, if_neg h0, b225_13 (by omega), b225_16]
theorem r223 {h : HP} {I : Nat → Int → Int} {s x : Int} (L : LX 11 h 94) (W : WB I) (K : WK I) (Z : Z133 I) : Go 223 0 [.inr (.inl (some 94)), .inl s, .inl x] [] (mI h I) = aq h (qI I s x) (rowU (tH I 0) 133 (ind (Cl (Eg I s) (fun j => j = fnd I x)))) (b01 (Wh I s (fnd I x))) I 1 := by
  have ht := WB_t W
  have hf := fnd_lt (I := I) (x := x) ht.1
  have e : ∀ a, a ≠ 94 → tH I 0 a = I a := fun a => tH_n
  have e0 : tH I 0 94 0 = I 94 0 := tH_94 (by decide)
  have W2 : WB (tH I 0) := by rw [WB_e e0 (e 95 (by decide)) (e 96 (by decide)) (e 97 (by decide)) (e 98 (by decide))]; exact W
  have ff : fnd (tH I 0) = fnd I := funext (fun _ => fnd_tH)
  have Eg2 : Eg (tH I 0) = Eg I := by
    unfold Eg Lk atR
    rw [ff]
    rfl
  have Wh2 : Wh (tH I 0) = Wh I := by
    unfold Wh
    rw [Eg2]
    rfl
  rw [b223_0 L, r208 L ht]
  by_cases hq : qI I s x
  · have hs := hq.1
    have hx := hq.2
    rw [aq_t hq, aq_t hq, caln_r, b223_4, if_neg neg1_ne, b223_5 L, r165 L (by rw [e0]; exact ht), fnd_tH, caln_r, b223_10 L, r182 L W2 K Z hs (by rw [e0]; omega), Eg2, Wh2, caln_r, b223_11]
    by_cases hw : Wh I s (fnd I x)
    · rw [b01_t hw, if_neg neg1_ne, b223_12, b223_15 (Or.inr rfl)]
    · rw [b01_f hw, if_pos rfl, b223_14, b223_15 (Or.inl rfl)]
  · rw [aq_f hq, aq_f hq, caln_r, b223_4, if_pos rfl, b223_14, b223_15 (Or.inl rfl)]
