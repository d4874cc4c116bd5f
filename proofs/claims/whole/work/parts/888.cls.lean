/-! ===== the class (18): loose copies and packs come and go ===== -/
theorem lv_c {J K : Nat → Int → Int} {s o : Int} (h2 : K 102 = J 102) : ∀ n : Nat, (∀ k, 0 ≤ k → k < (n : Int) → K 105 (30 * s + k) = J 105 (30 * s + k) ∧ K 106 (30 * s + k) = J 106 (30 * s + k)) → lv K s o n = lv J s o n
  | 0, _ => by
    unfold lv
    rw [h2]
  | n + 1, h => by
    have ih := lv_c (J := J) (K := K) (s := s) (o := o) h2 n (fun k a b => h k a (by omega))
    have e := h n (by omega) (by omega)
    unfold lv
    rw [e.1, e.2, ih]
theorem pv_c {J K : Nat → Int → Int} {s p : Int} (h2 : K 110 p = J 110 p) : ∀ n : Nat, (∀ k, 0 ≤ k → k < (n : Int) → K 105 (30 * s + k) = J 105 (30 * s + k) ∧ K 106 (30 * s + k) = J 106 (30 * s + k)) → pv K s p n = pv J s p n
  | 0, _ => h2
  | n + 1, h => by
    have ih := pv_c (J := J) (K := K) (s := s) (p := p) h2 n (fun k a b => h k a (by omega))
    have e := h n (by omega) (by omega)
    unfold pv
    rw [e.1, e.2, ih]
theorem nv_c {J K : Nat → Int → Int} {s : Int} : ∀ n : Nat, (∀ k, 0 ≤ k → k < (n : Int) → K 105 (30 * s + k) = J 105 (30 * s + k) ∧ K 106 (30 * s + k) = J 106 (30 * s + k)) → nv K s n = nv J s n
  | 0, _ => rfl
  | n + 1, h => by
    have ih := nv_c (J := J) (K := K) (s := s) n (fun k a b => h k a (by omega))
    have e := h n (by omega) (by omega)
    unfold nv
    rw [e.1, ih]
theorem RD_ad {J K : Nat → Int → Int} {s a o : Int} (hn : 0 ≤ J 104 s) (R : RD J s) (h104 : K 104 s = J 104 s + 1) (h5 : ∀ k, 0 ≤ k → k < J 104 s → K 105 (30 * s + k) = J 105 (30 * s + k) ∧ K 106 (30 * s + k) = J 106 (30 * s + k)) (hl : K 105 (30 * s + J 104 s) = a ∧ K 106 (30 * s + J 104 s) = o) (h2 : K 102 = J 102) (h10 : K 110 = J 110) (ha : a ≠ 4)
    (h101 : ∀ y, K 101 (120 * s + y) = if a = 0 ∧ o = y then J 104 s + 2 else if a = 2 ∧ o = y then 0 else J 101 (120 * s + y)) (h109 : ∀ p, K 109 p = if a = 1 ∧ o = p then 1 else if a = 3 ∧ o = p then 0 else J 109 p)
    (hr : ∀ c, 115 ≤ c → c ≤ 122 → K c = J c) : RD K s := by
  have e1 : (J 104 s + 1).toNat = (J 104 s).toNat + 1 := by omega
  have e2 : ((J 104 s).toNat : Int) = J 104 s := Int.toNat_of_nonneg hn
  have h5b : ∀ k, 0 ≤ k → k < ((J 104 s).toNat : Int) → K 105 (30 * s + k) = J 105 (30 * s + k) ∧ K 106 (30 * s + k) = J 106 (30 * s + k) := fun k a b => h5 k a (by omega)
  rw [RD, h104, e1]
  refine ⟨fun y y0 y1 => ?_, fun p p0 p1 => ?_, ?_⟩
  · rw [h101, R.1 y y0 y1]
    show _ = if K 105 (30 * s + ((J 104 s).toNat : Int)) = 0 ∧ K 106 (30 * s + ((J 104 s).toNat : Int)) = y then (((J 104 s).toNat : Int) + 2) else if K 105 (30 * s + ((J 104 s).toNat : Int)) = 2 ∧ K 106 (30 * s + ((J 104 s).toNat : Int)) = y then 0 else lv K s y (J 104 s).toNat
    rw [e2, hl.1, hl.2, lv_c h2 _ h5b]
  · rw [h109, R.2.1 p p0 p1]
    show _ = if K 105 (30 * s + ((J 104 s).toNat : Int)) = 1 ∧ K 106 (30 * s + ((J 104 s).toNat : Int)) = p then (1 : Int) else if K 105 (30 * s + ((J 104 s).toNat : Int)) = 3 ∧ K 106 (30 * s + ((J 104 s).toNat : Int)) = p then 0 else pv K s p (J 104 s).toNat
    rw [e2, hl.1, hl.2, pv_c (by rw [h10]) _ h5b]
  · have en : nv K s ((J 104 s).toNat + 1) = nv J s (J 104 s).toNat := by
      show (if K 105 (30 * s + ((J 104 s).toNat : Int)) = 4 then 1 + ((J 104 s).toNat : Int) else nv K s (J 104 s).toNat) = _
      rw [e2, hl.1, if_neg ha, nv_c _ h5b]
    rw [en]
    have c := R.2.2
    unfold CN nC at c ⊢
    rw [hr 115 (by decide) (by decide), hr 116 (by decide) (by decide), hr 117 (by decide) (by decide), hr 118 (by decide) (by decide), hr 119 (by decide) (by decide), hr 120 (by decide) (by decide), hr 121 (by decide) (by decide), hr 122 (by decide) (by decide)]
    exact c
theorem DNk_J {h : HP} {I J K : Nat → Int → Int} {d : Nat} {s n : Int} (T : WT J) (hs : s = 0 ∨ s = 1) (H : ∀ a, (101 ≤ a ∧ a ≤ 114) ∨ (120 ≤ a ∧ a ≤ 122) ∨ a = 96 ∨ a = 97 → K a = J a) (D : DNk h I J d s n) : DNk h I K d s n := by
  have hm := T.2.2.2.1.1 s hs
  refine ⟨⟨fun y y0 y1 => ?_, fun p p0 p1 => ?_⟩, ⟨?_, fun p p0 p1 => ?_⟩, ?_, ?_, fun k k0 k1 => ?_⟩
  · unfold lcI kc BL
    rw [H 101 (by omega), H 102 (by omega), H 103 (by omega), H 107 (by omega)]
    exact D.1.1 y y0 y1
  · rw [H 109 (by omega), H 110 (by omega)]
    exact D.1.2 p p0 p1
  · rw [H 108 (by omega)]
    exact D.2.1.1
  · rw [H 108 (by omega)] at p1
    obtain ⟨b, hb, C⟩ := D.2.1.2 p p0 p1
    exact ⟨b, hb, PC_c T.1 T.2.2.2.1 (by omega) (H 96 (by omega)) (H 97 (by omega)) (H 111 (by omega)) (H 112 (by omega)) (H 113 (by omega)) (H 114 (by omega)) C⟩
  · unfold NS
    rw [H 120 (by omega), H 121 (by omega), H 122 (by omega)]
    exact D.2.2.1
  · rw [H 104 (by omega)]
    exact D.2.2.2.1
  · unfold NS
    rw [H 105 (by omega), H 106 (by omega), H 107 (by omega), H 120 (by omega), H 121 (by omega), H 122 (by omega)]
    exact D.2.2.2.2 k k0 k1
theorem DNk_I {h : HP} {I K J : Nat → Int → Int} {d : Nat} {s n : Int} (W : OWN h) (hd : d = 11 ∨ d = 43) (H : ∀ c, (d ≤ c ∧ c ≤ d + 5) ∨ (d + 11 ≤ c ∧ c ≤ d + 19) ∨ 140 ≤ c → K c = I c) (D : DNk h I J d s n) : DNk h K J d s n := by
  refine ⟨⟨fun y y0 y1 => ?_, fun p p0 p1 => ?_⟩, ⟨?_, fun p p0 p1 => ?_⟩, ?_, ?_, DD_I W hd (fun c hc => H c (by omega)) D.2.2.2.2⟩
  · rw [H (d + 1) (by omega), H (d + 2) (by omega)]
    exact D.1.1 y y0 y1
  · rw [H (d + 4) (by omega), H (d + 5) (by omega)]
    exact D.1.2 p p0 p1
  · rw [H d (by omega)]
    exact D.2.1.1
  · obtain ⟨b, hb, C⟩ := D.2.1.2 p p0 p1
    have hb1 := C.2.1.1
    refine ⟨b, hb, ?_⟩
    rw [PC_I (I := I) (a := b) (fun c c0 c1 => H c (by omega))]
    exact C
  · unfold NS
    rw [NO_I (I := I) (n := d + 11) (fun c c0 c1 => H c (by omega))]
    exact D.2.2.1
  · rw [H d (by omega)]
    exact D.2.2.2.1
/-- a loose copy becomes another -/
theorem DN_101 {h : HP} {I J : Nat → Int → Int} {d : Nat} {s o v x : Int} (W : OWN h) (hd : d = 11 ∨ d = 43) (T : WT J) (hs : s = 0 ∨ s = 1) (D : DN h I J d s) (hv : lcI (rowU J 101 (up1 (J 101) (120 * s + o) x)) s o = v) : DN h (zu2 I (d + 1) o v) (rowU J 101 (up1 (J 101) (120 * s + o) x)) d s := by
  have hm := T.2.2.2.1.1 s hs
  have fI : ∀ c, c ≠ d + 1 → zu2 I (d + 1) o v c = I c := fun c hc => by rw [zu2_row, rowU_ne hc]
  have fJ : ∀ c, c ≠ 101 → rowU J 101 (up1 (J 101) (120 * s + o) x) c = J c := fun c hc => rowU_ne hc
  have j101 : rowU J 101 (up1 (J 101) (120 * s + o) x) 101 = up1 (J 101) (120 * s + o) x := rowU_eq
  generalize rowU J 101 (up1 (J 101) (120 * s + o) x) = K at *
  refine ⟨⟨fun y y0 y1 => ⟨?_, ?_⟩, fun p p0 p1 => ?_⟩, ⟨?_, fun p p0 p1 => ?_⟩, ?_, ?_, ?_⟩
  · rw [zu2_row, rowU_eq]
    by_cases q : y = o
    · subst q; rw [up1_eq, hv]
    · rw [up1_ne q, (D.1.1 y y0 y1).1]
      unfold lcI BL
      rw [fJ 103 (by decide), fJ 107 (by decide), j101, up1_ne (by omega)]
  · rw [fI _ (by omega), (D.1.1 y y0 y1).2]
    unfold kc
    rw [fJ 102 (by decide), fJ 103 (by decide)]
  · rw [fI _ (by omega), fI _ (by omega), fJ 109 (by decide), fJ 110 (by decide)]
    exact D.1.2 p p0 p1
  · rw [fI _ (by omega), fJ 108 (by decide)]
    exact D.2.1.1
  · rw [fJ 108 (by decide)] at p1
    obtain ⟨b, hb, C⟩ := D.2.1.2 p p0 p1
    have hb1 := C.2.1.1
    refine ⟨b, hb, ?_⟩
    rw [PC_I (I := I) (a := b) (fun c c0 c1 => fI c (by omega))]
    exact PC_c T.1 T.2.2.2.1 (by omega) (fJ _ (by decide)) (fJ _ (by decide)) (fJ _ (by decide)) (fJ _ (by decide)) (fJ _ (by decide)) (fJ _ (by decide)) C
  · unfold NS
    rw [fJ 120 (by decide), fJ 121 (by decide), fJ 122 (by decide), NO_I (I := I) (n := d + 11) (fun c c0 c1 => fI c (by omega))]
    exact D.2.2.1
  · rw [fI _ (by omega), fJ 104 (by decide)]
    exact D.2.2.2.1
  · rw [fJ 104 (by decide)]
    have dd := DD_I (K := zu2 I (d + 1) o v) W hd (fun c hc => fI c (by omega)) D.2.2.2.2
    intro k k0 k1
    unfold NS
    rw [fJ 105 (by decide), fJ 106 (by decide), fJ 107 (by decide), fJ 120 (by decide), fJ 121 (by decide), fJ 122 (by decide)]
    exact dd k k0 k1
/-- a pack is in or not -/
theorem DN_109 {h : HP} {I J : Nat → Int → Int} {d : Nat} {s p v : Int} (W : OWN h) (hd : d = 11 ∨ d = 43) (T : WT J) (hs : s = 0 ∨ s = 1) (D : DN h I J d s) : DN h (zu2 I (d + 4) p v) (rowU J 109 (up1 (J 109) (20 * s + p) v)) d s := by
  have hm := T.2.2.2.1.1 s hs
  have fI : ∀ c, c ≠ d + 4 → zu2 I (d + 4) p v c = I c := fun c hc => by rw [zu2_row, rowU_ne hc]
  have fJ : ∀ c, c ≠ 109 → rowU J 109 (up1 (J 109) (20 * s + p) v) c = J c := fun c hc => rowU_ne hc
  have j109 : rowU J 109 (up1 (J 109) (20 * s + p) v) 109 = up1 (J 109) (20 * s + p) v := rowU_eq
  generalize rowU J 109 (up1 (J 109) (20 * s + p) v) = K at *
  refine ⟨⟨fun y y0 y1 => ?_, fun q q0 q1 => ⟨?_, ?_⟩⟩, ⟨?_, fun q q0 q1 => ?_⟩, ?_, ?_, ?_⟩
  · rw [fI _ (by omega), fI _ (by omega)]
    unfold lcI kc BL
    rw [fJ 101 (by decide), fJ 102 (by decide), fJ 103 (by decide), fJ 107 (by decide)]
    exact D.1.1 y y0 y1
  · rw [zu2_row, rowU_eq, j109]
    by_cases e : q = p
    · subst e; rw [up1_eq, up1_eq]
    · rw [up1_ne e, up1_ne (by omega)]
      exact (D.1.2 q q0 q1).1
  · rw [fI _ (by omega), fJ 110 (by decide)]
    exact (D.1.2 q q0 q1).2
  · rw [fI _ (by omega), fJ 108 (by decide)]
    exact D.2.1.1
  · rw [fJ 108 (by decide)] at q1
    obtain ⟨b, hb, C⟩ := D.2.1.2 q q0 q1
    have hb1 := C.2.1.1
    refine ⟨b, hb, ?_⟩
    rw [PC_I (I := I) (a := b) (fun c c0 c1 => fI c (by omega))]
    exact PC_c T.1 T.2.2.2.1 (by omega) (fJ _ (by decide)) (fJ _ (by decide)) (fJ _ (by decide)) (fJ _ (by decide)) (fJ _ (by decide)) (fJ _ (by decide)) C
  · unfold NS
    rw [fJ 120 (by decide), fJ 121 (by decide), fJ 122 (by decide), NO_I (I := I) (n := d + 11) (fun c c0 c1 => fI c (by omega))]
    exact D.2.2.1
  · rw [fI _ (by omega), fJ 104 (by decide)]
    exact D.2.2.2.1
  · rw [fJ 104 (by decide)]
    have dd := DD_I (K := zu2 I (d + 4) p v) W hd (fun c hc => fI c (by omega)) D.2.2.2.2
    intro k k0 k1
    unfold NS
    rw [fJ 105 (by decide), fJ 106 (by decide), fJ 107 (by decide), fJ 120 (by decide), fJ 121 (by decide), fJ 122 (by decide)]
    exact dd k k0 k1
