/-! ===== the class (24): copies are spoilt ===== -/
theorem lv_last {J : Nat → Int → Int} {s o : Int} : ∀ n : Nat, (lv J s o n = 1 → J 102 (120 * s + o) ≠ 0 ∧ ∀ k, 0 ≤ k → k < (n : Int) → ¬(J 105 (30 * s + k) = 0 ∧ J 106 (30 * s + k) = o)) ∧ (2 ≤ lv J s o n → (J 105 (30 * s + (lv J s o n - 2)) = 0 ∧ J 106 (30 * s + (lv J s o n - 2)) = o) ∧ ∀ k, lv J s o n - 2 < k → k < (n : Int) → ¬(J 105 (30 * s + k) = 0 ∧ J 106 (30 * s + k) = o))
  | 0 => by
    refine ⟨fun q => ⟨fun r => ?_, fun k a b => by omega⟩, fun q => ?_⟩
    · unfold lv at q
      rw [if_pos r] at q
      omega
    · unfold lv at q
      split at q <;> omega
  | n + 1 => by
    obtain ⟨i1, i2⟩ := lv_last (J := J) (s := s) (o := o) n
    have hb := lv_b (J := J) (s := s) (o := o) n
    by_cases a0 : J 105 (30 * s + n) = 0 ∧ J 106 (30 * s + n) = o
    · have e : lv J s o (n + 1) = n + 2 := if_pos a0
      rw [e]
      refine ⟨fun q => by omega, fun _ => ⟨?_, fun k a b => by omega⟩⟩
      rw [show (n : Int) + 2 - 2 = n by omega]
      exact a0
    · by_cases a2 : J 105 (30 * s + n) = 2 ∧ J 106 (30 * s + n) = o
      · have e : lv J s o (n + 1) = 0 := (if_neg a0).trans (if_pos a2)
        rw [e]
        exact ⟨fun q => by omega, fun q => by omega⟩
      · have e : lv J s o (n + 1) = lv J s o n := (if_neg a0).trans (if_neg a2)
        rw [e]
        refine ⟨fun q => ⟨(i1 q).1, fun k a b => ?_⟩, fun q => ⟨(i2 q).1, fun k a b => ?_⟩⟩
        · by_cases h : k = n
          · subst h; exact a0
          · exact (i1 q).2 k a (by omega)
        · by_cases h : k = n
          · subst h; exact a0
          · exact (i2 q).2 k a (by omega)
theorem k46 {h : HP} {I J : Nat → Int → Int} {d : Nat} {s o : Int} {v2 : MV} (hd : d = 11 ∨ d = 43) (L : LX 3 h d) (W : OWN h) (D : DN h I J d s) (T : WT J) (R : RD J s) (hs : s = 0 ∨ s = 1) (ho : 0 ≤ o ∧ o < 100) (hG : J 101 (120 * s + o) ≠ 0) (Q : WQc J) :
    ∃ I1, Go 46 0 [.inr (.inl (some d)), .inl o, v2] [] (mI h I) = some (mI h I1, .inl none) ∧ DN h I1 (spL J s o) d s ∧ RD (spL J s o) s ∧ ∀ c, c < d ∨ d + 19 < c ∨ (d + 6 ≤ c ∧ c ≤ d + 10) → I1 c = I c := by
  have h30 := T.2.2.2.2.2.1 s hs
  have hm := T.2.2.2.1.1 s hs
  have e12 := D.2.2.2.1
  have DD0 := D.2.2.2.2
  obtain ⟨n, hn⟩ : ∃ n, n = J 104 s := ⟨_, rfl⟩
  rw [← hn] at e12 DD0 h30
  have hb := RD_b R (by omega) (o := o) ⟨ho.1, by omega⟩
  obtain ⟨l1, l2⟩ := lv_last (J := J) (s := s) (o := o) (J 104 s).toNat
  rw [← R.1 o ho.1 (by omega), Int.toNat_of_nonneg (by omega)] at l1 l2
  rw [← hn] at l1 l2 hb
  obtain ⟨E, hE⟩ : ∃ E, E = zu2 I (d + 1) o 2 := ⟨_, rfl⟩
  have Ef : ∀ c, c ≠ d + 1 → E c = I c := fun c hc => by rw [hE, zu2_row, rowU_ne hc]
  have E1 : E (d + 1) = up1 (I (d + 1)) o 2 := by rw [hE, zu2_row, rowU_eq]
  have Ed : E d 12 = n := by rw [Ef d (by omega), e12]
  -- what is common to both cases
  have fin : ∀ (I1 K : Nat → Int → Int), (∀ c, c ≠ 103 → c ≠ 107 → K c = J c) → (∀ c, c ≠ d + 2 → c ≠ d + 18 → I1 c = E c) → (∀ y, 0 ≤ y → y < 100 → lcI K s y = if y = o then 2 else lcI J s y) → (∀ y, 0 ≤ y → y < 100 → I1 (d + 2) y = kc K s y) → (∀ k, 0 ≤ k → k < n → J 105 (30 * s + k) = 0 → I1 (d + 18) k = K 107 (30 * s + k)) → DN h I1 K d s ∧ RD K s ∧ ∀ c, c < d ∨ d + 19 < c ∨ (d + 6 ≤ c ∧ c ≤ d + 10) → I1 c = I c := by
    intro I1 K hK hI hl hk h18
    refine ⟨⟨⟨fun y y0 y1 => ⟨?_, hk y y0 y1⟩, fun p p0 p1 => ?_⟩, ⟨?_, fun p p0 p1 => ?_⟩, ?_, ?_, fun k k0 k1 => ?_⟩, RD_c (fun c hc => hK c (by omega) (by omega)) R, fun c hc => by rw [hI c (by omega) (by omega), Ef c (by omega)]⟩
    · rw [hI _ (by omega) (by omega), E1, hl y y0 y1]
      by_cases q : y = o
      · subst q; rw [up1_eq, if_pos rfl]
      · rw [up1_ne q, if_neg q]
        exact (D.1.1 y y0 y1).1
    · rw [hI _ (by omega) (by omega), hI _ (by omega) (by omega), Ef _ (by omega), Ef _ (by omega), hK 109 (by decide) (by decide), hK 110 (by decide) (by decide)]
      exact D.1.2 p p0 p1
    · rw [hI _ (by omega) (by omega), Ef _ (by omega), hK 108 (by decide) (by decide)]
      exact D.2.1.1
    · rw [hK 108 (by decide) (by decide)] at p1
      obtain ⟨a, ha, C⟩ := D.2.1.2 p p0 p1
      have a140 := C.2.1.1
      refine ⟨a, ha, PC_c T.1 T.2.2.2.1 (by omega) (hK 96 (by decide) (by decide)) (hK 97 (by decide) (by decide)) (hK 111 (by decide) (by decide)) (hK 112 (by decide) (by decide)) (hK 113 (by decide) (by decide)) (hK 114 (by decide) (by decide)) ?_⟩
      rw [PC_I (I := I) (a := a) (fun b b0 b1 => by rw [hI b (by omega) (by omega), Ef b (by omega)])]
      exact C
    · unfold NS
      rw [hK 120 (by decide) (by decide), hK 121 (by decide) (by decide), hK 122 (by decide) (by decide), NO_I (I := I) (n := d + 11) (fun c c0 c1 => by rw [hI c (by omega) (by omega), Ef c (by omega)])]
      exact D.2.2.1
    · rw [hI _ (by omega) (by omega), hK 104 (by decide) (by decide), Ed, hn]
    · rw [hK 104 (by decide) (by decide), ← hn] at k1
      have q := DD0 k k0 k1
      rw [hI (d + 16) (by omega) (by omega), hI (d + 17) (by omega) (by omega), Ef (d + 16) (by omega), Ef (d + 17) (by omega), hK 105 (by decide) (by decide), hK 106 (by decide) (by decide)]
      refine ⟨q.1, h18 k k0 k1, q.2.2.1, q.2.2.2.1, fun q4 => ?_⟩
      obtain ⟨a, ha, hNS⟩ := q.2.2.2.2 q4
      have o3 : 140 ≤ a := (W.2.1 _ _ _ (OAr_19 hd) ha).1.1
      refine ⟨a, ha, ?_⟩
      have fr : ∀ c, a ≤ c → c ≤ a + 4 → I1 c = I c := fun c q0 q1 => by rw [hI c (by omega) (by omega), Ef c (by omega)]
      unfold NS
      rw [hK 120 (by decide) (by decide), hK 121 (by decide) (by decide), hK 122 (by decide) (by decide), NO_I (I := I) (n := a) fr]
      exact hNS
  have head : ∀ z, z < n → 0 ≤ z → Go 46 10 [.inr (.inl (some d)), .inl o, .inl z] [] (mI h E) = if J 105 (30 * s + z) = 0 ∧ J 106 (30 * s + z) = o then Go 46 23 [.inr (.inl (some d)), .inl o, .inl z] [] (mI h E) else Go 46 10 [.inr (.inl (some d)), .inl o, .inl (z - 1)] [] (mI h E) := by
    intro z z1 z0
    have q := DD0 z z0 z1
    rw [b46_10, if_neg (by omega), b46_12 L (by omega), Ef (d + 16) (by omega), q.1]
    by_cases a0 : J 105 (30 * s + z) = 0
    · rw [if_neg (fun t => t a0), b46_17 L (by omega), Ef (d + 17) (by omega), q.2.2.1 (Or.inl a0)]
      by_cases a1 : J 106 (30 * s + z) = o
      · rw [if_neg (fun t => t a1), if_pos ⟨a0, a1⟩]
      · rw [if_pos a1, if_neg (fun t => a1 t.2), b46_29 (by omega)]
        rfl
    · rw [if_pos a0, if_neg (fun t => a0 t.1), b46_29 (by omega)]
      rfl
  have down : ∀ (m : Nat) (z : Int), z < n → z - m ≥ -1 → (∀ k, z - m < k → k ≤ z → ¬(J 105 (30 * s + k) = 0 ∧ J 106 (30 * s + k) = o)) → Go 46 10 [.inr (.inl (some d)), .inl o, .inl z] [] (mI h E) = Go 46 10 [.inr (.inl (some d)), .inl o, .inl (z - m)] [] (mI h E) := by
    intro m
    induction m with
    | zero => intro z _ _ _; rw [show z - ((0 : Nat) : Int) = z by omega]
    | succ m ih =>
      intro z z1 z2 hno
      rw [head z z1 (by omega), if_neg (hno z (by omega) (Int.le_refl _)), ih (z - 1) (by omega) (by omega) (fun k k0 k1 => hno k (by omega) (by omega)), show z - 1 - (m : Int) = z - ((m + 1 : Nat) : Int) by omega]
  have hst : Go 46 0 [.inr (.inl (some d)), .inl o, v2] [] (mI h I) = Go 46 10 [.inr (.inl (some d)), .inl o, .inl (n - 1)] [] (mI h E) := by
    have e : zu2 I (d + 1) o 2 d 12 = n := by rw [← hE]; exact Ed
    rw [b46_0 L ho (by rw [e]; omega), e, hE]
  rw [hst]
  unfold spL
  by_cases h1 : J 101 (120 * s + o) = 1
  · obtain ⟨k2, kno⟩ := l1 h1
    rw [if_pos h1]
    have f103 : ∀ c, c ≠ 103 → zu2 J 103 (120 * s + o) 1 c = J c := fun c hc => by rw [zu2_row, rowU_ne hc]
    have g103 : zu2 J 103 (120 * s + o) 1 103 = up1 (J 103) (120 * s + o) 1 := by rw [zu2_row, rowU_eq]
    have q := fin (zu2 E (d + 2) o 2) (zu2 J 103 (120 * s + o) 1) (fun c c3 _ => f103 c c3) (fun c c2 _ => by rw [zu2_row, rowU_ne c2]) (fun y y0 y1 => ?_) (fun y y0 y1 => ?_) (fun k k0 k1 ka => ?_)
    · refine ⟨zu2 E (d + 2) o 2, ?_, q⟩
      rw [down n.toNat (n - 1) (by omega) (by omega) (fun k k0 k1 => kno k (by omega) (by omega)), b46_10, if_pos (by omega), b46_31 L ho]
    · unfold lcI BL
      rw [f103 101 (by decide), f103 107 (by decide), g103]
      by_cases e : y = o
      · subst e
        rw [if_neg hG, up1_eq, if_pos rfl, if_pos (Or.inl ⟨h1, rfl⟩)]
      · rw [up1_ne (by omega), if_neg e]
    · rw [zu2_row, rowU_eq]
      unfold kc
      rw [f103 102 (by decide), g103]
      by_cases e : y = o
      · subst e
        rw [up1_eq, up1_eq, if_neg k2, if_pos rfl]
      · rw [up1_ne e, up1_ne (by omega), Ef _ (by omega)]
        exact (D.1.1 y y0 y1).2
    · rw [zu2_row, rowU_ne (by omega), Ef _ (by omega), f103 107 (by decide)]
      exact (DD0 k k0 k1).2.1 ka
  · obtain ⟨ka, kno⟩ := l2 (by omega)
    rw [if_neg h1]
    obtain ⟨m, hmk⟩ : ∃ m, m = J 101 (120 * s + o) - 2 := ⟨_, rfl⟩
    rw [← hmk] at ka kno
    rw [show 30 * s + J 101 (120 * s + o) - 2 = 30 * s + m by omega]
    have f107 : ∀ c, c ≠ 107 → zu2 J 107 (30 * s + m) 1 c = J c := fun c hc => by rw [zu2_row, rowU_ne hc]
    have g107 : zu2 J 107 (30 * s + m) 1 107 = up1 (J 107) (30 * s + m) 1 := by rw [zu2_row, rowU_eq]
    have q := fin (zu2 E (d + 18) m 1) (zu2 J 107 (30 * s + m) 1) (fun c _ c7 => f107 c c7) (fun c _ c8 => by rw [zu2_row, rowU_ne c8]) (fun y y0 y1 => ?_) (fun y y0 y1 => ?_) (fun k k0 k1 kz => ?_)
    · refine ⟨zu2 E (d + 18) m 1, ?_, q⟩
      rw [down (n - 1 - m).toNat (n - 1) (by omega) (by omega) (fun k k0 k1 => kno k (by omega) (by omega)), show n - 1 - ((n - 1 - m).toNat : Int) = m by omega, head m (by omega) (by omega), if_pos ka, b46_23 L (by omega)]
    · unfold lcI BL
      rw [f107 101 (by decide), f107 103 (by decide), g107]
      by_cases e : y = o
      · subst e
        rw [if_neg hG, show 30 * s + J 101 (120 * s + y) - 2 = 30 * s + m by omega, up1_eq, if_pos rfl, if_pos (Or.inr ⟨h1, rfl⟩)]
      · rw [if_neg e]
        by_cases q0 : J 101 (120 * s + y) = 0
        · rw [if_pos q0, if_pos q0]
        · by_cases q1 : 30 * s + J 101 (120 * s + y) - 2 = 30 * s + m
          · have r := (lv_last (J := J) (s := s) (o := y) (J 104 s).toNat).2
            rw [← R.1 y y0 (by omega)] at r
            have r2 := (r (by omega)).1
            rw [show J 101 (120 * s + y) - 2 = m by omega] at r2
            omega
          · rw [up1_ne q1]
    · rw [zu2_row, rowU_ne (by omega), Ef _ (by omega)]
      unfold kc
      rw [f107 102 (by decide), f107 103 (by decide)]
      exact (D.1.1 y y0 y1).2
    · rw [zu2_row, rowU_eq, g107, Ef _ (by omega)]
      by_cases e : k = m
      · subst e; rw [up1_eq, up1_eq]
      · rw [up1_ne e, up1_ne (by omega)]
        exact (DD0 k k0 k1).2.1 kz
