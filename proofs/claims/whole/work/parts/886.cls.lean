/-! ===== the class (16): all deeds are kept: the disk is synced ===== -/
theorem zAll {k : Int} (h0 : 0 ≤ k) (h1 : k < 30) : zand (1073741823 / 2 ^ k.toNat) 1 = 1 := by
  have q : ∀ n : Fin 30, zand (1073741823 / 2 ^ n.val) 1 = 1 := by decide +kernel
  exact q ⟨k.toNat, by omega⟩
/-- what the deeds make of a loose copy, a pack, the notes -/
def lv (J : Nat → Int → Int) (s o : Int) : Nat → Int
  | 0 => if J 102 (120 * s + o) = 0 then 0 else 1
  | n + 1 => if J 105 (30 * s + n) = 0 ∧ J 106 (30 * s + n) = o then n + 2 else if J 105 (30 * s + n) = 2 ∧ J 106 (30 * s + n) = o then 0 else lv J s o n
def kv (J : Nat → Int → Int) (s o : Int) : Nat → Int
  | 0 => kc J s o
  | n + 1 => if J 105 (30 * s + n) = 0 ∧ J 106 (30 * s + n) = o then (if J 107 (30 * s + n) = 1 then 2 else 1) else if J 105 (30 * s + n) = 2 ∧ J 106 (30 * s + n) = o then 0 else kv J s o n
def pv (J : Nat → Int → Int) (s p : Int) : Nat → Int
  | 0 => J 110 p
  | n + 1 => if J 105 (30 * s + n) = 1 ∧ J 106 (30 * s + n) = p then 1 else if J 105 (30 * s + n) = 3 ∧ J 106 (30 * s + n) = p then 0 else pv J s p n
def nv (J : Nat → Int → Int) (s : Int) : Nat → Int
  | 0 => 0
  | n + 1 => if J 105 (30 * s + n) = 4 then 1 + (n : Int) else nv J s n
theorem kc_kD {M : Nat → Int → Int} {s k o : Int} : kc (kD M s k) s o = if M 105 (30 * s + k) = 0 ∧ M 106 (30 * s + k) = o then (if M 107 (30 * s + k) = 1 then 2 else 1) else if M 105 (30 * s + k) = 2 ∧ M 106 (30 * s + k) = o then 0 else kc M s o := by
  have n0 : ¬(M 105 (30 * s + k) = 0 ∧ M 106 (30 * s + k) = o) → ¬(M 105 (30 * s + k) = 2 ∧ M 106 (30 * s + k) = o) → (if M 105 (30 * s + k) = 0 ∧ M 106 (30 * s + k) = o then (if M 107 (30 * s + k) = 1 then 2 else 1) else if M 105 (30 * s + k) = 2 ∧ M 106 (30 * s + k) = o then 0 else kc M s o) = kc M s o := fun q r => by rw [if_neg q, if_neg r]
  by_cases a0 : M 105 (30 * s + k) = 0
  · have e : kD M s k = rowU (rowU M 102 (up1 (M 102) (120 * s + M 106 (30 * s + k)) 1)) 103 (up1 (M 103) (120 * s + M 106 (30 * s + k)) (M 107 (30 * s + k))) := if_pos a0
    by_cases ho : M 106 (30 * s + k) = o
    · rw [if_pos (show M 105 (30 * s + k) = 0 ∧ M 106 (30 * s + k) = o from ⟨a0, ho⟩), e]
      unfold kc
      rw [rowU_ne (by decide), rowU_eq, rowU_eq, ho, up1_eq, up1_eq, if_neg (show ¬(1 : Int) = 0 by decide)]
    · rw [n0 (fun q => ho q.2) (fun q => ho q.2), e]
      unfold kc
      rw [rowU_ne (by decide), rowU_eq, rowU_eq, up1_ne (by omega), up1_ne (by omega)]
  · by_cases a1 : M 105 (30 * s + k) = 1
    · have e : kD M s k = rowU M 110 (up1 (M 110) (M 106 (30 * s + k)) 1) := (if_neg a0).trans (if_pos a1)
      rw [n0 (fun q => a0 q.1) (fun q => by omega), e]
      unfold kc
      rw [rowU_ne (by decide), rowU_ne (by decide)]
    · by_cases a2 : M 105 (30 * s + k) = 2
      · have e : kD M s k = rowU M 102 (up1 (M 102) (120 * s + M 106 (30 * s + k)) 0) := (if_neg a0).trans ((if_neg a1).trans (if_pos a2))
        by_cases ho : M 106 (30 * s + k) = o
        · rw [if_neg (show ¬(M 105 (30 * s + k) = 0 ∧ M 106 (30 * s + k) = o) from fun q => a0 q.1), if_pos (show M 105 (30 * s + k) = 2 ∧ M 106 (30 * s + k) = o from ⟨a2, ho⟩), e]
          unfold kc
          rw [rowU_eq, rowU_ne (by decide), ho, up1_eq, if_pos rfl]
        · rw [n0 (fun q => ho q.2) (fun q => ho q.2), e]
          unfold kc
          rw [rowU_eq, rowU_ne (by decide), up1_ne (by omega)]
      · rw [n0 (fun q => a0 q.1) (fun q => a2 q.1)]
        have e : kD M s k = if M 105 (30 * s + k) = 3 then rowU M 110 (up1 (M 110) (M 106 (30 * s + k)) 0) else M := (if_neg a0).trans ((if_neg a1).trans (if_neg a2))
        rw [e]
        split
        · unfold kc
          rw [rowU_ne (by decide), rowU_ne (by decide)]
        · rfl
theorem kD_110 {M : Nat → Int → Int} {s k p : Int} : kD M s k 110 p = if M 105 (30 * s + k) = 1 ∧ M 106 (30 * s + k) = p then 1 else if M 105 (30 * s + k) = 3 ∧ M 106 (30 * s + k) = p then 0 else M 110 p := by
  have n0 : ¬(M 105 (30 * s + k) = 1 ∧ M 106 (30 * s + k) = p) → ¬(M 105 (30 * s + k) = 3 ∧ M 106 (30 * s + k) = p) → (if M 105 (30 * s + k) = 1 ∧ M 106 (30 * s + k) = p then 1 else if M 105 (30 * s + k) = 3 ∧ M 106 (30 * s + k) = p then 0 else M 110 p) = M 110 p := fun q r => by rw [if_neg q, if_neg r]
  by_cases a0 : M 105 (30 * s + k) = 0
  · have e : kD M s k = rowU (rowU M 102 (up1 (M 102) (120 * s + M 106 (30 * s + k)) 1)) 103 (up1 (M 103) (120 * s + M 106 (30 * s + k)) (M 107 (30 * s + k))) := if_pos a0
    rw [n0 (by omega) (by omega), e, rowU_ne (by decide), rowU_ne (by decide)]
  · by_cases a1 : M 105 (30 * s + k) = 1
    · have e : kD M s k = rowU M 110 (up1 (M 110) (M 106 (30 * s + k)) 1) := (if_neg a0).trans (if_pos a1)
      by_cases ho : M 106 (30 * s + k) = p
      · rw [if_pos (show M 105 (30 * s + k) = 1 ∧ M 106 (30 * s + k) = p from ⟨a1, ho⟩), e, rowU_eq, ho, up1_eq]
      · rw [n0 (fun q => ho q.2) (fun q => ho q.2), e, rowU_eq, up1_ne (fun q => ho q.symm)]
    · by_cases a2 : M 105 (30 * s + k) = 2
      · have e : kD M s k = rowU M 102 (up1 (M 102) (120 * s + M 106 (30 * s + k)) 0) := (if_neg a0).trans ((if_neg a1).trans (if_pos a2))
        rw [n0 (by omega) (by omega), e, rowU_ne (by decide)]
      · have e : kD M s k = if M 105 (30 * s + k) = 3 then rowU M 110 (up1 (M 110) (M 106 (30 * s + k)) 0) else M := (if_neg a0).trans ((if_neg a1).trans (if_neg a2))
        rw [e]
        by_cases a3 : M 105 (30 * s + k) = 3
        · rw [if_pos a3, rowU_eq]
          by_cases ho : M 106 (30 * s + k) = p
          · rw [if_neg (show ¬(M 105 (30 * s + k) = 1 ∧ M 106 (30 * s + k) = p) from fun q => a1 q.1), if_pos (show M 105 (30 * s + k) = 3 ∧ M 106 (30 * s + k) = p from ⟨a3, ho⟩), ho, up1_eq]
          · rw [n0 (fun q => ho q.2) (fun q => ho q.2), up1_ne (fun q => ho q.symm)]
        · rw [if_neg a3, n0 (fun q => a1 q.1) (fun q => a3 q.1)]
theorem cSA {J : Nat → Int → Int} {s : Int} : ∀ n : Nat, (n : Int) ≤ 30 → (cS J s 1073741823 n).2.2 = 0 ∧ (cS J s 1073741823 n).2.1 = nv J s n ∧ (∀ o, kc (cS J s 1073741823 n).1 s o = kv J s o n) ∧ ∀ p, (cS J s 1073741823 n).1 110 p = pv J s p n
  | 0, _ => ⟨rfl, rfl, fun _ => rfl, fun _ => rfl⟩
  | n + 1, hn => by
    obtain ⟨i1, i2, i3, i4⟩ := cSA (J := J) (s := s) n (by omega)
    have e := cS_s (I := J) (s := s) (x := 1073741823) (k := n) (by omega)
    rw [show ((n : Int) + 1).toNat = n + 1 by omega, Int.toNat_natCast] at e
    rw [e, if_pos ⟨zAll (by omega) (by omega), Or.inr i1⟩]
    dsimp only
    refine ⟨i1, ?_, fun o => ?_, fun p => ?_⟩
    · rw [i2]; rfl
    · rw [kc_kD, cS_f (by decide) (by decide) (by decide), cS_f (by decide) (by decide) (by decide), cS_f (by decide) (by decide) (by decide), i3]
      rfl
    · rw [kD_110, cS_f (by decide) (by decide) (by decide), cS_f (by decide) (by decide) (by decide), i4]
      rfl
def lkv (J : Nat → Int → Int) (s o x : Int) : Int := if x = 0 then 0 else if x = 1 then (if J 103 (120 * s + o) = 1 then 2 else 1) else if J 107 (30 * s + x - 2) = 1 then 2 else 1
theorem kv_lv {J : Nat → Int → Int} {s o : Int} : ∀ n : Nat, kv J s o n = lkv J s o (lv J s o n)
  | 0 => by
    unfold kv lv kc lkv
    by_cases q : J 102 (120 * s + o) = 0
    · rw [if_pos q, if_pos q, if_pos rfl]
    · rw [if_neg q, if_neg q, if_neg (show ¬(1 : Int) = 0 by decide), if_pos rfl]
  | n + 1 => by
    have ih := kv_lv (J := J) (s := s) (o := o) n
    unfold kv lv
    by_cases q : J 105 (30 * s + n) = 0 ∧ J 106 (30 * s + n) = o
    · rw [if_pos q, if_pos q]
      unfold lkv
      rw [if_neg (show ¬((n : Int) + 2 = 0) by omega), if_neg (show ¬((n : Int) + 2 = 1) by omega), show 30 * s + ((n : Int) + 2) - 2 = 30 * s + n by omega]
    · rw [if_neg q, if_neg q]
      by_cases r : J 105 (30 * s + n) = 2 ∧ J 106 (30 * s + n) = o
      · rw [if_pos r, if_pos r]
        rfl
      · rw [if_neg r, if_neg r, ih]
theorem lkv_lc {J : Nat → Int → Int} {s o : Int} (W : WL J) : lkv J s o (J 101 (120 * s + o)) = lcI J s o := by
  have w := W.2.2 (120 * s + o)
  unfold lkv lcI
  by_cases q : J 101 (120 * s + o) = 0
  · rw [if_pos q, if_pos q]
  · rw [if_neg q, if_neg q]
    by_cases q1 : J 101 (120 * s + o) = 1
    · rw [if_pos q1]
      by_cases r : J 103 (120 * s + o) = 1
      · rw [if_pos r, if_pos (show BL J s o from Or.inl ⟨q1, r⟩)]
      · rw [if_neg r, if_neg (show ¬BL J s o from fun t => t.elim (fun t => r t.2) (fun t => t.1 q1))]
    · rw [if_neg q1]
      by_cases r : J 107 (30 * s + J 101 (120 * s + o) - 2) = 1
      · rw [if_pos r, if_pos (show BL J s o from Or.inr ⟨q1, r⟩)]
      · rw [if_neg r, if_neg (show ¬BL J s o from fun t => t.elim (fun t => q1 t.1) (fun t => r t.2))]
/-- a slot keeps the current notes -/
def CN (J : Nat → Int → Int) (s t : Int) : Prop := (∀ k, 0 ≤ k → k < 6 → J 120 (6 * (31 * s + t) + k) = J 115 (6 * s + k)) ∧ J 122 (31 * s + t) = J 119 s ∧ ∀ o, 0 ≤ o → o < 120 → J 121 (120 * (31 * s + t) + o) = nC J (120 * s + o)
/-- what is on the disk is what the deeds made of what was kept -/
def RD (J : Nat → Int → Int) (s : Int) : Prop := (∀ o, 0 ≤ o → o < 120 → J 101 (120 * s + o) = lv J s o (J 104 s).toNat) ∧ (∀ p, 20 * s ≤ p → p < 20 * s + 20 → J 109 p = pv J s p (J 104 s).toNat) ∧ CN J s (nv J s (J 104 s).toNat)
def ZO (J : Nat → Int → Int) : Prop := ∀ s o, s = 0 ∨ s = 1 → J 94 0 ≤ o → o < 120 → J 101 (120 * s + o) = 0 ∧ J 102 (120 * s + o) = 0
theorem kN_120 {I : Nat → Int → Int} {s n k : Int} (hk : 0 ≤ k ∧ k < 6) : kN I s n 120 (6 * (31 * s + n) + k) = I 115 (6 * s + k) := by
  unfold kN
  rw [rowU_ne (by decide), rowU_ne (by decide), rowU_eq, fillR_in (by omega)]
  congr 1
  omega
theorem kN_121 {I : Nat → Int → Int} {s n o : Int} (ho : 0 ≤ o ∧ o < 120) : kN I s n 121 (120 * (31 * s + n) + o) = nC I (120 * s + o) := by
  unfold kN
  rw [rowU_ne (by decide), rowU_eq, fillR_in (by omega)]
  congr 1
  omega
theorem kN_122 {I : Nat → Int → Int} {s n : Int} : kN I s n 122 (31 * s + n) = I 119 s := by
  unfold kN
  rw [rowU_eq, up1_eq]
theorem CN_kN {I : Nat → Int → Int} {s n : Int} : CN (kN I s n) s n := by
  refine ⟨fun k k0 k1 => ?_, ?_, fun o o0 o1 => ?_⟩
  · rw [kN_120 ⟨k0, k1⟩, kN_f (by decide) (by decide) (by decide)]
  · rw [kN_122, kN_f (by decide) (by decide) (by decide)]
  · rw [kN_121 ⟨o0, o1⟩]
    unfold nC
    rw [kN_f (by decide) (by decide) (by decide), kN_f (by decide) (by decide) (by decide), kN_f (by decide) (by decide) (by decide)]
theorem NO_c {I : Nat → Int → Int} {n : Nat} {r r2 : Int → Int} {lg lg2 : Int} {b s p b2 s2 p2 : Int → Int} (h1 : ∀ k, 0 ≤ k → k < 6 → r k = r2 k) (h2 : lg = lg2) (h3 : ∀ o, 0 ≤ o → o < 100 → b o = b2 o ∧ s o = s2 o ∧ p o = p2 o) (N : NO I n r lg b s p) : NO I n r2 lg2 b2 s2 p2 :=
  ⟨fun k k0 k1 => (N.1 k k0 k1).trans (h1 k k0 k1), N.2.1.trans h2, fun o o0 o1 => by
    have a := N.2.2 o o0 o1
    have c := h3 o o0 o1
    exact ⟨a.1.trans c.1, a.2.1.trans c.2.1, a.2.2.trans c.2.2⟩⟩
/-- a note in a slot that keeps the same is the same -/
theorem NS_CN {I J K : Nat → Int → Int} {n : Nat} {s t u : Int} (h1 : CN J s t) (h2 : CN K s u) (e5 : K 115 = J 115) (e6 : K 116 = J 116) (e7 : K 117 = J 117) (e8 : K 118 = J 118) (e9 : K 119 = J 119) (N : NS I J n s t) : NS I K n s u := by
  have en : nC K = nC J := by
    funext j
    unfold nC
    rw [e6, e7, e8]
  refine NO_c (fun k k0 k1 => ?_) ?_ (fun o o0 o1 => ?_) N
  · rw [h1.1 k k0 k1, h2.1 k k0 k1, e5]
  · rw [h1.2.1, h2.2.1, e9]
  · rw [h1.2.2 o o0 (by omega), h2.2.2 o o0 (by omega), en]
    exact ⟨rfl, rfl, rfl⟩
theorem k51s {h : HP} {I J : Nat → Int → Int} {d : Nat} {s : Int} {v2 v3 v4 v5 : MV} (hd : d = 11 ∨ d = 43) (L : LX 3 h d) (L4 : LX 4 h (d + 11)) (W : OWN h) (D : DN h I J d s) (Q : WQc J) (WT_ : WT J) (Z : ZO J) (R : RD J s) (hs : s = 0 ∨ s = 1) :
    ∃ I1, Go 51 0 [.inr (.inl (some d)), .inl 1073741823, v2, v3, v4, v5] [] (mI h I) = some (mI h I1, .inl (some (.inl (J 104 s)))) ∧ DN h I1 (sY J s) d s ∧ ∀ c, c < d ∨ d + 19 < c ∨ (d + 6 ≤ c ∧ c ≤ d + 10) → I1 c = I c := by
  have E := WT_.2.1
  have h30 := WT_.2.2.2.2.2.1 s hs
  obtain ⟨I1, e1, f1, f2, f3, f4, f5⟩ := k51 (h := h) (I := I) (J := J) (d := d) (s := s) (x := 1073741823) (v2 := v2) (v3 := v3) (v4 := v4) (v5 := v5) hd L L4 W D Q E hs h30 (by decide)
  obtain ⟨c1, c2, c3, c4⟩ := cSA (J := J) (s := s) (J 104 s).toNat (by omega)
  rw [c1, Int.sub_zero] at e1
  rw [c2] at f2
  have g1 : I1 (d + 1) = I (d + 1) := f5 _ (by omega) (by omega) (by omega) (by omega)
  have g4 : I1 (d + 4) = I (d + 4) := f5 _ (by omega) (by omega) (by omega) (by omega)
  have y109 : sY J s 109 = J 109 := sY_f (by omega)
  have y1 : sY J s 101 = s1 J s := by
    unfold sY sJ
    rw [rowU_ne (by decide), kN_f (by decide) (by decide) (by decide), rowU_ne (by decide), rowU_eq]
  have y2 : sY J s 102 = s2 J s := by
    unfold sY sJ
    rw [rowU_ne (by decide), kN_f (by decide) (by decide) (by decide), rowU_ne (by decide), rowU_ne (by decide), rowU_ne (by decide), rowU_eq]
  have y3 : sY J s 103 = s3 J s := by
    unfold sY sJ
    rw [rowU_ne (by decide), kN_f (by decide) (by decide) (by decide), rowU_ne (by decide), rowU_ne (by decide), rowU_eq]
  have y10 : sY J s 110 = fillR (J 110) (20 * s) (20 * s + 20) (J 109) := by
    unfold sY sJ
    rw [rowU_ne (by decide), kN_f (by decide) (by decide) (by decide), rowU_eq]
  have ekc : ∀ o, 0 ≤ o → o < 100 → kc (sY J s) s o = lcI J s o := by
    intro o o0 o1
    have w := E.2.2 (120 * s + o)
    unfold kc
    rw [y2, y3]
    unfold s2 s3 lcI
    by_cases ht : o < J 94 0
    · rw [fillR_in (by omega), fillR_in (by omega), show 120 * s + o - 120 * s = o by omega]
      by_cases q : J 101 (120 * s + o) = 0
      · rw [if_pos q, b01_f (by omega), if_pos rfl]
      · rw [if_neg q, b01_t (p := 0 < J 101 (120 * s + o)) (by omega), if_neg (show ¬(1 : Int) = 0 by decide)]
        by_cases r : BL J s o
        · rw [if_pos r, b01_t ⟨by omega, r⟩, if_pos rfl]
        · rw [if_neg r, b01_f (fun t => r t.2), if_neg (show ¬(0 : Int) = 1 by decide)]
    · have z := Z s o hs (by omega) (by omega)
      rw [fillR_out (by omega), if_pos z.2, if_pos z.1]
  have elc : ∀ o, 0 ≤ o → o < 100 → lcI (sY J s) s o = lcI J s o := by
    intro o o0 o1
    have w := E.2.2 (120 * s + o)
    have k := ekc o o0 o1
    rw [← k]
    unfold kc lcI BL
    rw [y1]
    unfold s1
    rw [fillR_in (by omega), y2]
    by_cases q : s2 J s (120 * s + o) = 0
    · rw [if_pos q, if_pos rfl, if_pos q]
    · rw [if_neg q, if_neg q, if_neg (show ¬(1 : Int) = 0 by decide)]
      by_cases r : sY J s 103 (120 * s + o) = 1
      · rw [if_pos (Or.inl ⟨rfl, r⟩), if_pos r]
      · rw [if_neg (fun t => t.elim (fun t => r t.2) (fun t => t.1 rfl)), if_neg r]
  refine ⟨I1, e1, ⟨⟨fun o o0 o1 => ⟨?_, ?_⟩, fun p p0 p1 => ⟨?_, ?_⟩⟩, ⟨?_, fun p p0 p1 => ?_⟩, ?_, ?_, ?_⟩, fun c hc => f5 c (by omega) (by omega) (by omega) (by omega)⟩
  · rw [g1, elc o o0 o1]
    exact (D.1.1 o o0 o1).1
  · rw [f1.1 o o0 o1, c3, kv_lv, ← R.1 o o0 (by omega), lkv_lc E, ekc o o0 o1]
  · rw [g4, y109]
    exact (D.1.2 p p0 p1).1
  · rw [f1.2 p p0 p1, c4, ← R.2.1 _ (by omega) (by omega), y10, fillR_in (by omega)]
  · rw [f4 5 (by decide), sY_f (by omega)]
    exact D.2.1.1
  · rw [sY_f (a := 108) (by omega)] at p1
    obtain ⟨a, ha, C⟩ := D.2.1.2 p p0 p1
    have hm := WT_.2.2.2.1.1 s hs
    refine ⟨a, ha, PC_P WT_.1 WT_.2.2.2.1 (by omega) (fun o _ _ => ?_) ?_ (by rw [PC_I (I := I) (a := a) (fun b b0 b1 => f5 b (by have := C.2.1.1; omega) (by have := C.2.1.1; omega) (by have := C.2.1.1; omega) (by have := C.2.1.1; omega))]; exact C)⟩
    · rw [sY_f (a := 96) (by omega), sY_f (a := 97) (by omega)]
      exact ⟨rfl, fun _ _ _ => rfl⟩
    · refine ⟨by rw [sY_f (a := 111) (by omega)], fun k _ _ => ?_⟩
      rw [sY_f (a := 112) (by omega), sY_f (a := 113) (by omega), sY_f (a := 114) (by omega)]
      exact ⟨rfl, rfl, rfl⟩
  · refine NS_CN R.2.2 ?_ (sY_f (by omega)) (sY_f (by omega)) (sY_f (by omega)) (sY_f (by omega)) (sY_f (by omega)) f2
    have := CN_kN (I := sJ J s) (s := s) (n := 0)
    unfold sY
    unfold CN nC at this ⊢
    rw [rowU_ne (by decide), rowU_ne (by decide), rowU_ne (by decide), rowU_ne (by decide), rowU_ne (by decide), rowU_ne (by decide), rowU_ne (by decide), rowU_ne (by decide)]
    exact this
  · rw [f3, sY_104]
  · intro k k0 k1
    rw [sY_104] at k1
    omega
