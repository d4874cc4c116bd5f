/-! ===== blocks: Arrays.fill, notes and packs made ===== -/
theorem b274_0 {h : HP} {I : Nat → Int → Int} {a0 : Nat} {x1 : Int} {v2 : MV} {v3 : MV} {n_a0 : Int} (p0 : hK h a0 = (0, n_a0)) : Go 274 0 [.inr (.inl (some a0)), .inl x1, v2, v3] [] (mI h I) = Go 274 5 [.inr (.inl (some a0)), .inl x1, .inl 0, .inl n_a0] [] (mI h I) := by
  refine (Go_const (h := mI h I) (y := 274) (ip := 0) (a := 0) (b := 0) (c := 0) (by decide +kernel)).trans ?_
  refine (Go_istore (h := mI h I) (y := 274) (ip := 1) (a := 0) (b := 2) (c := 0) (by decide +kernel) rfl).trans ?_
  refine (Go_aload (h := mI h I) (y := 274) (ip := 2) (a := 0) (b := 0) (c := 0) (by decide +kernel) rfl).trans ?_
  refine (Go_alen (h := mI h I) (y := 274) (ip := 3) (a := 0) (b := 0) (c := 0) (by decide +kernel) (p0) rfl).trans ?_
  refine (Go_istore (h := mI h I) (y := 274) (ip := 4) (a := 0) (b := 3) (c := 0) (by decide +kernel) rfl).trans ?_
  rfl

theorem b274_5 {h : HP} {I : Nat → Int → Int} {r0 : Option Nat} {x1 : Int} {x2 : Int} {x3 : Int} : Go 274 5 [.inr (.inl r0), .inl x1, .inl x2, .inl x3] [] (mI h I) = if x3 ≤ x2 then Go 274 14 [.inr (.inl r0), .inl x1, .inl x2, .inl x3] [] (mI h I) else Go 274 8 [.inr (.inl r0), .inl x1, .inl x2, .inl x3] [] (mI h I) := by
  refine (Go_iload (h := mI h I) (y := 274) (ip := 5) (a := 0) (b := 2) (c := 0) (by decide +kernel) rfl).trans ?_
  refine (Go_iload (h := mI h I) (y := 274) (ip := 6) (a := 0) (b := 3) (c := 0) (by decide +kernel) rfl).trans ?_
  refine (Go_cmpge (y := 274) (ip := 7) (a := 0) (c := 14) (by decide +kernel)).trans ?_
  rfl

theorem b274_8 {h : HP} {I : Nat → Int → Int} {a0 : Nat} {x1 : Int} {x2 : Int} {x3 : Int} {n_a0 : Int} (p0 : hK h a0 = (0, n_a0)) (p1 : 0 ≤ x2 ∧ x2 < n_a0) (p2 : -2147483648 ≤ x2 + 1 ∧ x2 + 1 < 2147483648) : Go 274 8 [.inr (.inl (some a0)), .inl x1, .inl x2, .inl x3] [] (mI h I) = Go 274 5 [.inr (.inl (some a0)), .inl x1, .inl (x2 + 1), .inl x3] [] (mI h (zu2 I a0 x2 x1)) := by
  refine (Go_aload (h := mI h I) (y := 274) (ip := 8) (a := 0) (b := 0) (c := 0) (by decide +kernel) rfl).trans ?_
  refine (Go_iload (h := mI h I) (y := 274) (ip := 9) (a := 0) (b := 2) (c := 0) (by decide +kernel) rfl).trans ?_
  refine (Go_iload (h := mI h I) (y := 274) (ip := 10) (a := 0) (b := 1) (c := 0) (by decide +kernel) rfl).trans ?_
  refine (Go_ast (h := mI h I) (y := 274) (ip := 11) (a := 0) (b := 0) (c := 0) (by decide +kernel) (p0) p1 (Or.inl rfl)).trans ?_
  refine (Go_iinc (h := mI h (zu2 I a0 x2 x1)) (y := 274) (ip := 12) (a := 1) (b := 2) (c := 0) (by decide +kernel) rfl p2).trans ?_
  refine (Go_goto (h := mI h (zu2 I a0 x2 x1)) (y := 274) (ip := 13) (a := 0) (b := 0) (c := 5) (by decide +kernel)).trans ?_
  rfl

theorem b274_14 {h : HP} {I : Nat → Int → Int} {r0 : Option Nat} {x1 : Int} {x2 : Int} {x3 : Int} : Go 274 14 [.inr (.inl r0), .inl x1, .inl x2, .inl x3] [] (mI h I) = some (mI h I, .inl none) := by
  refine (Go_vret (h := mI h I) (y := 274) (ip := 14) (a := 0) (b := 0) (c := 0) (by decide +kernel) rfl).trans ?_
  rfl

theorem b53_22 {h : HP} {I : Nat → Int → Int} {a0 : Nat} (p0 : LX 4 h a0) : Go 53 22 [.inr (.inl (some a0))] [] (mI h I) = caln 53 [.inr (.inl (some a0))] [] 26 (Go 274 0 [.inr (.inl (some (a0 + 2))), .inl (-1), vU, vU] [] (mI h I)) := by
  refine (Go_aload (h := mI h I) (y := 53) (ip := 22) (a := 0) (b := 0) (c := 0) (by decide +kernel) rfl).trans ?_
  refine (Go_getR2 (r1 := some (a0 + 2)) (h := mI h I) (y := 53) (ip := 23) (a := 39) (b := 4) (c := 1) (by decide +kernel) rfl (LX_t p0) (LX_r p0 1 false 2 0 100 rfl)).trans ?_
  refine (Go_const (h := mI h I) (y := 53) (ip := 24) (a := (-1)) (b := 0) (c := 0) (by decide +kernel)).trans ?_
  refine (Go_call2 (h := mI h I) (y := 53) (ip := 25) (a := 41) (z := 274) (c := 1) (as := [.inr (.inl (some (a0 + 2))), .inl (-1)]) (rest := []) (by decide +kernel) (by decide +kernel) rfl rfl rfl rfl).trans ?_
  rfl

theorem b53_26 {h : HP} {I : Nat → Int → Int} {a0 : Nat} : Go 53 26 [.inr (.inl (some a0))] [] (mI h I) = some (mI h I, .inl none) := by
  refine (Go_vret (h := mI h I) (y := 53) (ip := 26) (a := 0) (b := 0) (c := 0) (by decide +kernel) rfl).trans ?_
  rfl

theorem b55_26 {h : HP} {I : Nat → Int → Int} {a0 : Nat} : Go 55 26 [.inr (.inl (some a0))] [] (mI h I) = some (mI h I, .inl none) := by
  refine (Go_vret (h := mI h I) (y := 55) (ip := 26) (a := 0) (b := 0) (c := 0) (by decide +kernel) rfl).trans ?_
  rfl

theorem k274 {h : HP} {I : Nat → Int → Int} {a : Nat} {n x : Int} {v2 v3 : MV} (hk : hK h a = (0, n)) (hn : 0 ≤ n ∧ n ≤ 10000) : Go 274 0 [.inr (.inl (some a)), .inl x, v2, v3] [] (mI h I) = some (mI h (rowU I a (fillR (I a) 0 n (fun _ => x))), .inl none) := by
  have key := lpU (fun k => Go 274 5 [.inr (.inl (some a)), .inl x, .inl k, .inl n] [] (mI h (rowU I a (fillR (I a) 0 k (fun _ => x))))) 0 n hn.1 ?_
  · rw [fillR_0 (by omega), rowU_id] at key
    rw [b274_0 hk, key, b274_5, if_pos (Int.le_refl _), b274_14]
  · intro k k0 k1
    rw [b274_5, if_neg (by omega), b274_8 hk (by omega) (by omega), zu2_row, rowU_tw, rowU_eq, fillR_s k0 rfl]
/-- the heap goes on: old objects stay what they are -/
def XT (h h' : HP) (c m : Nat) : Prop := hN h ≤ hN h' ∧ (∀ a, a < hN h → hK h' a = hK h a ∧ ((a ≠ 14 ∧ a ≠ 46) ∧ a ≠ 30 ∧ a ≠ 62 → hR h' a = hR h a)) ∧ h'.1.2.1 ≤ h.1.2.1 + c ∧ h'.1.2.2 ≤ h.1.2.2 + m
theorem XT_r (h : HP) : XT h h 0 0 := ⟨Nat.le_refl _, fun _ _ => ⟨rfl, fun _ => rfl⟩, Nat.le_refl _, Nat.le_refl _⟩
theorem XT_t {h k l : HP} {c m d n : Nat} (X : XT h k c m) (Y : XT k l d n) : XT h l (c + d) (m + n) :=
  ⟨Nat.le_trans X.1 Y.1, fun a ha => ⟨(Y.2.1 a (Nat.lt_of_lt_of_le ha X.1)).1.trans (X.2.1 a ha).1, fun q => ((Y.2.1 a (Nat.lt_of_lt_of_le ha X.1)).2 q).trans ((X.2.1 a ha).2 q)⟩, by have := X.2.2.1; have := Y.2.2.1; omega, by have := X.2.2.2; have := Y.2.2.2; omega⟩
theorem XT_w {h k : HP} {c m d n : Nat} (X : XT h k c m) (h1 : c ≤ d) (h2 : m ≤ n) : XT h k d n := ⟨X.1, X.2.1, by have := X.2.2.1; omega, by have := X.2.2.2; omega⟩
theorem LX_XT {h h' : HP} {c m ci a : Nat} (X : XT h h' c m) (ha : a < hN h ∧ (a ≠ 14 ∧ a ≠ 46) ∧ a ≠ 30 ∧ a ≠ 62) (hq : ∀ q ∈ zlay ci, (if q.2.1 = true then q.2.2.1 else a + q.2.2.1) < hN h) (L : LX ci h a) : LX ci h' a := by
  have e := X.2.1 a ha.1
  refine ⟨e.1.trans L.1, fun q hm => ?_⟩
  have l := L.2 q hm
  exact ⟨by rw [e.2 ha.2]; exact l.1, ((X.2.1 _ (hq q hm)).1).trans l.2⟩
def hfa (h : HP) (a k t : Nat) (n : Int) : HP := hSR (hNew h t n n.toNat) a k (some (hN h))
theorem Go_fa {y ip k t ci : Nat} {n p : Int} {a : Nat} {ls : List MV} {h : HP} {I : Nat → Int → Int} (z0 : zrow y ip = (42, 0, 0, 0)) (z1 : zrow y (ip + 1) = (0, n, 0, 0)) (z2 : zrow y (ip + 2) = (20, 0, t, 0)) (z3 : zrow y (ip + 3) = (17, p, ci, k)) (hs : (zSh ci k == 2) = true) (hn : 0 ≤ n ∧ n ≤ 10000) (ha : a ≠ hN h) (hk : (hK h a).1 = 10 + ci) :
    Go y ip (.inr (.inl (some a)) :: ls) [] (mI h I) = Go y (ip + 4) (.inr (.inl (some a)) :: ls) [] (mI (hfa h a k t n) (rowU I (hN h) (fun _ => 0))) := by
  refine (Go_aload (h := mI h I) z0 rfl).trans ?_
  refine (Go_const (h := mI h I) z1).trans ?_
  refine (Go_newa (h := mI h I) z2 hn).trans ?_
  refine (Go_putR (h := mI (hNew h t n n.toNat) (rowU I (hN h) (fun _ => 0))) z3 ?_ hs).trans ?_
  · show (zup (hK h) (hN h) (t, n) a).1 = 10 + ci
    unfold zup
    rw [if_neg ha]
    exact hk
  · rfl
