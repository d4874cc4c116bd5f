/-! ===== the class (20): the heap grows ===== -/
theorem hR_sR {h : HP} {x : Nat} {k : Int} {r : Option Nat} {b : Nat} {j : Int} : hR (hSR h x k r) b j = if b = x ∧ j = k then r else hR h b j := rfl
theorem LX_sR {h : HP} {x ci a : Nat} {k : Int} {r : Option Nat} (ha : a ≠ x) (L : LX ci h a) : LX ci (hSR h x k r) a := by
  refine ⟨L.1, fun q hq => ?_⟩
  have l := L.2 q hq
  exact ⟨by rw [hR_sR, if_neg (fun t => ha t.1)]; exact l.1, l.2⟩
theorem LX4_X {h h1 : HP} {c m a : Nat} (X : XT h h1 c m) (ha : 140 ≤ a ∧ a + 4 < hN h) (L : LX 4 h a) : LX 4 h1 a := by
  refine LX_XT X ⟨by omega, ⟨by omega, by omega⟩, by omega, by omega⟩ (fun q hq => ?_) L
  simp only [zlay, List.mem_cons, List.not_mem_nil, or_false] at hq
  obtain e | e | e | e := hq
  · subst e; show a + 1 < hN h; omega
  · subst e; show a + 2 < hN h; omega
  · subst e; show a + 3 < hN h; omega
  · subst e; show a + 4 < hN h; omega
theorem LX5_X {h h1 : HP} {c m a : Nat} (X : XT h h1 c m) (ha : 140 ≤ a ∧ a + 5 < hN h) (L : LX 5 h a) : LX 5 h1 a := by
  refine LX_XT X ⟨by omega, ⟨by omega, by omega⟩, by omega, by omega⟩ (fun q hq => ?_) L
  simp only [zlay, List.mem_cons, List.not_mem_nil, or_false] at hq
  obtain e | e | e | e | e := hq
  · subst e; show a + 1 < hN h; omega
  · subst e; show a + 2 < hN h; omega
  · subst e; show a + 3 < hN h; omega
  · subst e; show a + 4 < hN h; omega
  · subst e; show a + 5 < hN h; omega
theorem OAr_b {x : Nat} (h : OAr x) : x < 140 := by unfold OAr at h; omega
/-- a fresh object finds its owner -/
theorem OWN_s {h : HP} {x n : Nat} {k : Int} (W : OWN h) (hx : OAr x) (hn : 140 ≤ n ∧ n + owz x < hN h) (L : LX (if x = 14 ∨ x = 46 then 5 else 4) h n) (F : ∀ y j b, OAr y → hR h y j = some b → b + owz y < n) : OWN (hSR h x k (some n)) := by
  have ob := OAr_b hx
  refine ⟨W.1, fun y j a hy e => ?_, fun y j a z i b hy hz e1 e2 => ?_⟩
  · have oy := OAr_b hy
    rw [hR_sR] at e
    by_cases q : y = x ∧ j = k
    · rw [if_pos q] at e
      have e := Option.some.inj e
      subst e
      rw [q.1]
      exact ⟨hn, LX_sR (by omega) L⟩
    · rw [if_neg q] at e
      have w := W.2.1 y j a hy e
      exact ⟨w.1, LX_sR (by omega) w.2⟩
  · rw [hR_sR] at e1 e2
    by_cases q1 : y = x ∧ j = k
    · rw [if_pos q1] at e1
      have e1 := Option.some.inj e1
      subst e1
      by_cases q2 : z = x ∧ i = k
      · exact Or.inl ⟨by rw [q1.1, q2.1], by rw [q1.2, q2.2]⟩
      · rw [if_neg q2] at e2
        exact Or.inr (Or.inr (F z i b hz e2))
    · rw [if_neg q1] at e1
      by_cases q2 : z = x ∧ i = k
      · rw [if_pos q2] at e2
        have e2 := Option.some.inj e2
        subst e2
        exact Or.inr (Or.inl (F y j a hy e1))
      · rw [if_neg q2] at e2
        exact W.2.2 y j a z i b hy hz e1 e2
theorem OWN_X {h h1 : HP} {c m : Nat} (W : OWN h) (X : XT h h1 c m) (r : ∀ x k, OAr x → hR h1 x k = hR h x k) : OWN h1 := by
  refine ⟨Nat.le_trans W.1 X.1, fun x k a hx e => ?_, fun x k a y j b hx hy e1 e2 => ?_⟩
  · rw [r x k hx] at e
    obtain ⟨w1, w2⟩ := W.2.1 x k a hx e
    refine ⟨⟨w1.1, by have := X.1; omega⟩, ?_⟩
    by_cases q : x = 14 ∨ x = 46
    · have o : owz x = 5 := if_pos q
      rw [if_pos q] at w2 ⊢
      exact LX5_X X (by omega) w2
    · have o : owz x = 4 := if_neg q
      rw [if_neg q] at w2 ⊢
      exact LX4_X X (by omega) w2
  · rw [r x k hx] at e1
    rw [r y j hy] at e2
    exact W.2.2 x k a y j b hx hy e1 e2
theorem XT_s {h h1 : HP} {c m x : Nat} {k : Int} {r : Option Nat} (X : XT h h1 c m) (hx : OAr x) : XT h (hSR h1 x k r) c m := by
  refine ⟨X.1, fun a ha => ⟨(X.2.1 a ha).1, fun q => ?_⟩, X.2.2⟩
  have e := (X.2.1 a ha).2 q
  rw [← e]
  funext j
  rw [hR_sR, if_neg]
  unfold OAr at hx
  omega
theorem DNk_h {h h1 : HP} {I I1 J : Nat → Int → Int} {d c m : Nat} {s n : Int} (W : OWN h) (X : XT h h1 c m) (hd : d = 11 ∨ d = 43) (r3 : ∀ p, hR h1 (d + 3) p = hR h (d + 3) p) (r19 : ∀ i, 0 ≤ i → i < n → hR h1 (d + 19) i = hR h (d + 19) i)
    (H : ∀ c, (d ≤ c ∧ c ≤ d + 5) ∨ (d + 11 ≤ c ∧ c ≤ d + 19) → I1 c = I c) (Hp : ∀ p a, hR h (d + 3) p = some a → ∀ c, a ≤ c → c ≤ a + 5 → I1 c = I c) (Hn : ∀ i a, 0 ≤ i → i < n → hR h (d + 19) i = some a → ∀ c, a ≤ c → c ≤ a + 4 → I1 c = I c) (D : DNk h I J d s n) : DNk h1 I1 J d s n := by
  have hX := X.1
  refine ⟨⟨fun y y0 y1 => ?_, fun p p0 p1 => ?_⟩, ⟨?_, fun p p0 p1 => ?_⟩, ?_, ?_, fun i i0 i1 => ?_⟩
  · rw [H (d + 1) (by omega), H (d + 2) (by omega)]
    exact D.1.1 y y0 y1
  · rw [H (d + 4) (by omega), H (d + 5) (by omega)]
    exact D.1.2 p p0 p1
  · rw [H d (by omega)]
    exact D.2.1.1
  · obtain ⟨b, hb, C⟩ := D.2.1.2 p p0 p1
    refine ⟨b, by rw [r3]; exact hb, ?_⟩
    rw [PC_I (I := I) (a := b) (Hp p b hb)]
    have c1 := C.2.1
    exact ⟨LX5_X X c1 C.1, ⟨c1.1, by omega⟩, C.2.2⟩
  · unfold NS
    rw [NO_I (I := I) (n := d + 11) (fun c c0 c1 => H c (by omega))]
    exact D.2.2.1
  · rw [H d (by omega)]
    exact D.2.2.2.1
  · have q := D.2.2.2.2 i i0 i1
    rw [H (d + 16) (by omega), H (d + 17) (by omega), H (d + 18) (by omega)]
    refine ⟨q.1, q.2.1, q.2.2.1, q.2.2.2.1, fun q4 => ?_⟩
    obtain ⟨b, hb, hNS⟩ := q.2.2.2.2 q4
    refine ⟨b, by rw [r19 i i0 i1]; exact hb, ?_⟩
    unfold NS
    rw [NO_I (I := I) (n := b) (Hn i b i0 i1 hb)]
    exact hNS
/-- slots up to n stay -/
theorem DNk_S {h : HP} {I J K : Nat → Int → Int} {d : Nat} {s n : Int} (T : WT J) (hs : s = 0 ∨ s = 1) (hn : 0 ≤ n) (H : ∀ a, (101 ≤ a ∧ a ≤ 114) ∨ a = 96 ∨ a = 97 → K a = J a) (S : ∀ t, 0 ≤ t → t ≤ n → (∀ k, 0 ≤ k → k < 6 → K 120 (6 * (31 * s + t) + k) = J 120 (6 * (31 * s + t) + k)) ∧ K 122 (31 * s + t) = J 122 (31 * s + t) ∧ ∀ o, 0 ≤ o → o < 100 → K 121 (120 * (31 * s + t) + o) = J 121 (120 * (31 * s + t) + o)) (D : DNk h I J d s n) : DNk h I K d s n := by
  have hm := T.2.2.2.1.1 s hs
  have ns : ∀ (a : Nat) (t : Int), 0 ≤ t → t ≤ n → NS I J a s t → NS I K a s t := by
    intro a t t0 t1 N
    obtain ⟨q1, q2, q3⟩ := S t t0 t1
    exact NO_c (fun k k0 k1 => by rw [q1 k k0 k1]) q2.symm (fun o o0 o1 => by rw [q3 o o0 o1]; exact ⟨rfl, rfl, rfl⟩) N
  refine ⟨⟨fun y y0 y1 => ?_, fun p p0 p1 => ?_⟩, ⟨?_, fun p p0 p1 => ?_⟩, ns _ 0 (Int.le_refl _) hn D.2.2.1, ?_, fun k k0 k1 => ?_⟩
  · unfold lcI kc BL
    rw [H 101 (by omega), H 102 (by omega), H 103 (by omega), H 107 (by omega)]
    exact D.1.1 y y0 y1
  · rw [H 109 (by omega), H 110 (by omega)]
    exact D.1.2 p p0 p1
  · rw [H 108 (by omega)]
    exact D.2.1.1
  · rw [H 108 (by omega)] at p1
    obtain ⟨b, hb, C⟩ := D.2.1.2 p p0 p1
    exact ⟨b, hb, PC_c T.1 T.2.2.2.1 (by omega) (H 96 (by omega)) (H 97 (by omega)) (H 111 (by omega)) (H 112 (by omega)) (H 113 (by omega)) (H 114 (by omega)) C⟩
  · rw [H 104 (by omega)]
    exact D.2.2.2.1
  · rw [H 105 (by omega), H 106 (by omega), H 107 (by omega)]
    have q := D.2.2.2.2 k k0 k1
    refine ⟨q.1, q.2.1, q.2.2.1, q.2.2.2.1, fun q4 => ?_⟩
    obtain ⟨b, hb, hNS⟩ := q.2.2.2.2 q4
    exact ⟨b, hb, ns b (k + 1) (by omega) (by omega) hNS⟩
theorem kN_n {I : Nat → Int → Int} {s n t : Int} (hs : s = 0 ∨ s = 1) (hn : 0 ≤ n ∧ n < 31) (ht : 0 ≤ t ∧ t < 31) (hnt : t ≠ n) : (∀ k, 0 ≤ k → k < 6 → kN I s n 120 (6 * (31 * s + t) + k) = I 120 (6 * (31 * s + t) + k)) ∧ kN I s n 122 (31 * s + t) = I 122 (31 * s + t) ∧ ∀ o, 0 ≤ o → o < 120 → kN I s n 121 (120 * (31 * s + t) + o) = I 121 (120 * (31 * s + t) + o) := by
  unfold kN
  refine ⟨fun k k0 k1 => ?_, ?_, fun o o0 o1 => ?_⟩
  · rw [rowU_ne (by decide), rowU_ne (by decide), rowU_eq, fillR_out (by omega)]
  · rw [rowU_eq, up1_ne (by omega)]
  · rw [rowU_ne (by decide), rowU_eq, fillR_out (by omega)]
theorem NS_kN {I M : Nat → Int → Int} {a : Nat} {s t : Int} (h6 : ∀ j, M 116 j = 0 ∨ M 116 j = 1) (h7 : ∀ j, M 117 j = 0 ∨ M 117 j = 1) (N8 : WN M) (N : NO I a (fun k => M 115 (6 * s + k) - 1) (M 119 s) (fun o => M 118 (120 * s + o) - 1) (fun o => M 116 (120 * s + o)) (fun o => M 117 (120 * s + o))) : NS I (kN M s t) a s t := by
  refine NO_c (fun k k0 k1 => ?_) ?_ (fun o o0 o1 => ?_) N
  · rw [kN_120 ⟨k0, k1⟩]
  · rw [kN_122]
  · rw [kN_121 ⟨o0, by omega⟩]
    unfold nC
    have e6 := h6 (120 * s + o)
    have e7 := h7 (120 * s + o)
    obtain q6 | q6 := e6
    · obtain q7 | q7 := e7
      · rw [q6, q7, if_pos rfl]
        refine ⟨by omega, (b01_f (by omega)).symm, (b01_f (by omega)).symm⟩
      · rw [q6, q7, if_pos rfl, if_neg (by decide)]
        refine ⟨by omega, (b01_f (by omega)).symm, (b01_t (by omega)).symm⟩
    · obtain q7 | q7 := e7
      · rw [q6, q7, if_pos rfl, if_neg (by decide)]
        refine ⟨by omega, (b01_t (by omega)).symm, (b01_f (by omega)).symm⟩
      · rw [q6, q7, if_neg (by decide), if_neg (by decide)]
        refine ⟨by omega, (b01_t (by omega)).symm, (b01_t (by omega)).symm⟩
