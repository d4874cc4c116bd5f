/-! ===== the law (2): which answers there are; what helps the law ===== -/
section OPS23
variable {n m : Int} {h h1 : HP} {I I1 J K M D X Y : Nat → Int → Int}
theorem CBD_k {y : Nat} {as : List MV} {es : Int → Nat} {m : Int} {c v : (Nat → Int → Int) → Int} {P : HP → (Nat → Int → Int) → Prop} (k : ∃ h1 I1, Go y 0 as [] (mI h I) = some (mI h1 I1, oc es (c I) (v I)) ∧ P h1 I1) (hc : 0 ≤ c I ∧ c I ≤ m) : CBD y as es h I m := by
  obtain ⟨h1, I1, e, _⟩ := k
  exact ⟨_, _, _, e, hc⟩
theorem t99 {x : Int} (E : EV n h I I) (hn : n ≤ 9999) : CBD 99 [.inr (.inl (some 1)), .inl x] eB h I 2 := CBD_k (c := fun J => ptC J x) (v := fun J => J 94 5 + 1) (k99 E) (by unfold ptC; first | exact ic_m (ic_m (by decide) (by decide)) (by decide) | exact ic_m (by decide) (by decide))
theorem t100 (E : EV n h I I) : CBD 100 [.inr (.inl (some 1)), vU] eA h I 0 := CBD_k (c := fun _ => 0) (v := fun J => J 94 5) (k100 E) (by decide)
theorem t105 (E : EV n h I I) : CBD 105 [.inr (.inl (some 1))] eA h I 0 := ⟨_, 0, I 94 0, k105 E, by decide, by decide⟩
theorem t106 {x : Int} (E : EV n h I I) : CBD 106 [.inr (.inl (some 1)), .inl x] eA h I 1 := CBD_k (c := fun J => ic (0 ≤ fnd J x) 0 1) (v := fun J => J 95 (fnd J x)) (k106 E) (by exact ic_m (by decide) (by decide))
theorem t107 {x : Int} (E : EV n h I I) : CBD 107 [.inr (.inl (some 1)), .inl x] eA h I 1 := CBD_k (c := fun J => ic (0 ≤ fnd J x) 0 1) (v := fun J => J 96 (fnd J x)) (k107 E) (by exact ic_m (by decide) (by decide))
theorem t108 {x j : Int} (E : EV n h I I) : CBD 108 [.inr (.inl (some 1)), .inl x, .inl j] eA h I 1 := CBD_k (c := fun J => ic (hP J x j) 0 1) (v := fun J => J 97 (12 * fnd J x + j)) (k108 E) (by exact ic_m (by decide) (by decide))
theorem t109 {s x j : Int} (E : EV n h I I) : CBD 109 [.inr (.inl (some 1)), .inl s, .inl x, .inl j, vU, vU, vU, vU] eC h I 2 := CBD_k (c := fun J => rdC J s x j) (v := fun J => J 97 (12 * fnd J x + j)) (k109 E) (by unfold rdC; first | exact ic_m (ic_m (by decide) (by decide)) (by decide) | exact ic_m (by decide) (by decide))
theorem t110 {s x : Int} (E : EV n h I I) : CBD 110 [.inr (.inl (some 1)), .inl s, .inl x, vU, vU] eA h I 1 := CBD_k (c := fun J => ic (qI J s x) 0 1) (v := fun J => wV J s (fnd J x)) (k110 E) (by exact ic_m (by decide) (by decide))
theorem t111 {s : Int} (E : EV n h I I) : CBD 111 [.inr (.inl (some 1)), .inl s] eA h I 1 := CBD_k (c := fun _ => ic (s = 0 ∨ s = 1) 0 1) (v := fun J => J 104 s) (k111 E) (by exact ic_m (by decide) (by decide))
theorem t112 {s : Int} (E : EV n h I I) : CBD 112 [.inr (.inl (some 1)), .inl s] eA h I 1 := CBD_k (c := fun _ => ic (s = 0 ∨ s = 1) 0 1) (v := fun J => J 104 s) (k112 E) (by exact ic_m (by decide) (by decide))
theorem t113 {s x : Int} (E : EV n h I I) : CBD 113 [.inr (.inl (some 1)), .inl s, .inl x, vU] eA h I 2 := CBD_k (c := fun _ => crC s x) (v := fun J => cL J s x) (k113 E) (by unfold crC; first | exact ic_m (ic_m (by decide) (by decide)) (by decide) | exact ic_m (by decide) (by decide))
theorem t114 {x : Int} (E : EV n h I I) (hn : n ≤ 9998) : CBD 114 [.inr (.inl (some 1)), .inl x] eB h I 1 := CBD_k (c := fun _ => tkC x) (v := fun J => J 94 8 + x) (k114 E) (by unfold tkC; first | exact ic_m (ic_m (by decide) (by decide)) (by decide) | exact ic_m (by decide) (by decide))
theorem t115 {s k old now : Int} (E : EV n h I I) : CBD 115 [.inr (.inl (some 1)), .inl s, .inl k, .inl old, .inl now, vU, vU, vU, vU] eA h I 2 := CBD_k (c := fun J => xpC J s k old now) (v := fun J => eN (eX J s k old now) s) (k115 E) (by unfold xpC; first | exact ic_m (ic_m (by decide) (by decide)) (by decide) | exact ic_m (by decide) (by decide))
theorem t116 {s : Int} (E : EV n h I I) (hn : n ≤ 512) : CBD 116 [.inr (.inl (some 1)), .inl s, vU, vU] eC h I 2 := CBD_k (c := fun J => cmC J s) (v := fun J => b01 (cM J s (6 * s + 6))) (k116 E hn) (by unfold cmC; first | exact ic_m (ic_m (by decide) (by decide)) (by decide) | exact ic_m (by decide) (by decide))
theorem t117 {s r : Int} (E : EV n h I I) : CBD 117 [.inr (.inl (some 1)), .inl s, .inl r, vU] eA h I 1 := CBD_k (c := fun _ => ic ((s = 0 ∨ s = 1) ∧ 0 ≤ r ∧ r ≤ 5) 0 1) (v := fun J => nm J (J 115 (6 * s + r))) (k117 E) (by exact ic_m (by decide) (by decide))
theorem t118 {s : Int} (E : EV n h I I) : CBD 118 [.inr (.inl (some 1)), .inl s] eA h I 1 := CBD_k (c := fun _ => ic (s = 0 ∨ s = 1) 0 1) (v := fun J => J 119 s) (k118 E) (by exact ic_m (by decide) (by decide))
theorem t119 {s x : Int} (E : EV n h I I) : CBD 119 [.inr (.inl (some 1)), .inl s, .inl x, vU] eA h I 1 := CBD_k (c := fun J => ic (qI J s x) 0 1) (v := fun J => b01 (Wh J s (fnd J x))) (k119 E) (by exact ic_m (by decide) (by decide))
theorem t120 {s x : Int} (E : EV n h I I) : CBD 120 [.inr (.inl (some 1)), .inl s, .inl x, vU] eA h I 1 := CBD_k (c := fun J => ic (qI J s x) 0 1) (v := fun J => b01 (J 116 (120 * s + fnd J x) ≠ 0)) (k120 E) (by exact ic_m (by decide) (by decide))
theorem t123 {x : Int} (E : EV n h I I) : CBD 123 [.inr (.inl (some 1)), .inl x] eA h I 1 := CBD_k (c := fun J => ic (0 ≤ x ∧ x < J 94 41) 0 1) (v := fun J => J 132 x) (k123 E) (by exact ic_m (by decide) (by decide))
theorem t125 {s : Int} (E : EV n h I I) : CBD 125 [.inr (.inl (some 1)), .inl s] eA h I 1 := CBD_k (c := fun _ => ic (s = 0 ∨ s = 1) 0 1) (v := fun J => chN J s) (k125 E) (by exact ic_m (by decide) (by decide))
theorem t126 {s x : Int} (E : EV n h I I) : CBD 126 [.inr (.inl (some 1)), .inl s, .inl x, vU, vU] eA h I 1 := CBD_k (c := fun J => ic (qI J s x) 0 1) (v := fun J => rcN J s (fnd J x)) (k126 E) (by exact ic_m (by decide) (by decide))
theorem t127 {s x : Int} (E : EV n h I I) : CBD 127 [.inr (.inl (some 1)), .inl s, .inl x, vU, vU] eA h I 1 := CBD_k (c := fun J => ic (qI J s x) 0 1) (v := fun J => rcN J s (fnd J x)) (k127 E) (by exact ic_m (by decide) (by decide))
theorem t129 {s : Int} (E : EV n h I I) : CBD 129 [.inr (.inl (some 1)), .inl s] eA h I 1 := CBD_k (c := fun _ => ic (s = 0 ∨ s = 1) 0 1) (v := fun J => pcN J s) (k129 E) (by exact ic_m (by decide) (by decide))
theorem t130 {s x : Int} (E : EV n h I I) : CBD 130 [.inr (.inl (some 1)), .inl s, .inl x] eA h I 1 := CBD_k (c := fun J => ic (isP J s x) 0 1) (v := fun J => J 111 (20 * s + x)) (k130 E) (by exact ic_m (by decide) (by decide))
theorem t131 {s x : Int} (E : EV n h I I) : CBD 131 [.inr (.inl (some 1)), .inl s, .inl x] eA h I 1 := CBD_k (c := fun J => ic (isP J s x) 0 1) (v := fun J => szN J (20 * s + x) (J 111 (20 * s + x)).toNat) (k131 E) (by exact ic_m (by decide) (by decide))
theorem t132 {s x k : Int} (E : EV n h I I) : CBD 132 [.inr (.inl (some 1)), .inl s, .inl x, .inl k, vU] eA h I 1 := CBD_k (c := fun J => ic (isP J s x ∧ 0 ≤ k ∧ k < J 111 (20 * s + x)) 0 1) (v := fun J => bsJ J (20 * s + x) k) (k132 E) (by exact ic_m (by decide) (by decide))
theorem t133 {s x : Int} (E : EV n h I I) : CBD 133 [.inr (.inl (some 1)), .inl s, .inl x, vU, vU] eA h I 1 := CBD_k (c := fun J => ic (qI J s x) 0 1) (v := fun J => b01 (J 127 (120 * s + fnd J x) = 0)) (k133 E) (by exact ic_m (by decide) (by decide))
theorem t134 {s : Int} (E : EV n h I I) (hn : n ≤ 512) : CBD 134 [.inr (.inl (some 1)), .inl s, vU] eA h I 1 := CBD_k (c := fun _ => ic (s = 0 ∨ s = 1) 0 1) (v := fun J => swN (swX J s) s (enm J)) (k134 E hn) (by exact ic_m (by decide) (by decide))
theorem t135 (E : EV n h I I) : CBD 135 [.inr (.inl (some 1))] eA h I 0 := CBD_k (c := fun _ => 0) (v := fun J => b01 (J 94 9 ≠ 0)) (k135 E) (by decide)
theorem t137 {u r : Int} (E : EV n h I I) (hn : n < 512) : CBD 137 [.inr (.inl (some 1)), .inl u, .inl r, vU, vU] eC h I 2 := CBD_k (c := fun J => puC J u r) (v := fun J => fN J u r 0 0) (k137 E hn) (by unfold puC; first | exact ic_m (ic_m (by decide) (by decide)) (by decide) | exact ic_m (by decide) (by decide))
theorem t138 {s x : Int} (E : EV n h I I) : CBD 138 [.inr (.inl (some 1)), .inl s, .inl x, vU, vU, vU] eC h I 2 := CBD_k (c := fun J => slC J s x) (v := fun J => slV J s x) (k138 E) (by unfold slC; first | exact ic_m (ic_m (by decide) (by decide)) (by decide) | exact ic_m (by decide) (by decide))
theorem t139 {s : Int} (E : EV n h I I) : CBD 139 [.inr (.inl (some 1)), .inl s, vU] eA h I 1 := CBD_k (c := fun _ => ic (s = 0 ∨ s = 1) 0 1) (v := fun J => cN (Mi J s) (J 94 0).toNat) (k139 E) (by exact ic_m (by decide) (by decide))
theorem t140 {s p : Int} (E : EV n h I I) : CBD 140 [.inr (.inl (some 1)), .inl s, .inl p, vU, vU, vU, vU] eA h I 1 := CBD_k (c := fun J => ic ((s = 0 ∨ s = 1) ∧ 0 ≤ p ∧ p < mN J s) 0 1) (v := fun J => J 98 (eM J s p)) (k140 E (fun hs => eM_s (ev_V E) hs)) (by exact ic_m (by decide) (by decide))
theorem t141 {s : Int} (E : EV n h I I) : CBD 141 [.inr (.inl (some 1)), .inl s, vU, vU, vU, vU, vU] eC h I 2 := CBD_k (c := fun J => mdC J s) (v := fun J => (MD J s (eM J s) (mN J s).toNat).2) (k141 E) (by unfold mdC; first | exact ic_m (ic_m (by decide) (by decide)) (by decide) | exact ic_m (by decide) (by decide))
theorem t122 {s x y : Int} (E : EV n h I I) (_hn : n ≤ 9999) : CBD 122 [.inr (.inl (some 1)), .inl s, .inl x, .inl y, vU, vU, vU] eA h I 2 := by
  by_cases p : p1 I s x y ∧ p4 I x y
  · obtain ⟨P1, P4⟩ := p
    obtain ⟨I1, f, c, e1, _⟩ := k122 (v4 := vU) (v5 := vU) (v6 := vU) E P1 P4
    exact ⟨_, 0, c, e1, by decide, by decide⟩
  · refine ⟨mI (hThr h) I, wkC I s x y, 0, ?_, by unfold wkC; exact ic_m (ic_m (by decide) (by decide)) (by decide)⟩
    rw [k122x E p]
    unfold oc
    rw [if_neg]
    unfold wkC
    intro q
    by_cases c : p1 I s x y
    · rw [ic_t c, ic_f (fun t => p ⟨c, t⟩)] at q
      exact absurd q (by decide)
    · rw [ic_f c] at q
      exact absurd q (by decide)
theorem w99 {x : Int} (E : EV n h I I) (hn : n ≤ 9999) : WRP false 99 [.inr (.inl (some 1)), .inl x] eB h I (Go 275 0 [.inr (.inl (some 1)), .inl x, .inr (.inl (some 139)), vU] [] (mI h I)) := by
  intro h1 I1 c v e hc k139
  have hm := CBD_c (t99 E hn) (by decide) eB_i e hc
  have L10 := ly_10 E.1
  by_cases c0 : c = 0
  · subst c0
    have e2 : Go 99 0 [.inr (.inl (some 1)), .inl x] [] (mI h I) = some (mI h1 I1, .inl (some (.inl v))) := e
    refine ⟨h1, zu2 I1 139 0 v, ?_, Or.inl rfl, fun a ha => by rw [zu2_row, rowU_ne ha], fun _ => by rw [zu2_row, rowU_eq, up1_eq]; rfl⟩
    rw [b275_0 L10, e2, cal_r, b275_5 k139 (by decide), b275_14]
  by_cases c1 : c = 1
  · subst c1
    have e2 : Go 99 0 [.inr (.inl (some 1)), .inl x] [] (mI h I) = some (mI h1 I1, .inr 1) := e
    refine ⟨hOpq h1, I1, ?_, Or.inr rfl, fun _ _ => rfl, fun q => absurd q (by decide)⟩
    rw [b275_0 L10, e2, cal_h (show zhand 275 4 1 = some 8 by decide +kernel)]
    exact b275_8 (h := hOpq h1)
  by_cases c2 : c = 2
  · subst c2
    have e2 : Go 99 0 [.inr (.inl (some 1)), .inl x] [] (mI h I) = some (mI h1 I1, .inr 2) := e
    refine ⟨hOpq h1, I1, ?_, Or.inr rfl, fun _ _ => rfl, fun q => absurd q (by decide)⟩
    rw [b275_0 L10, e2, cal_h (show zhand 275 4 2 = some 11 by decide +kernel)]
    exact b275_11 (h := hOpq h1)
  omega
theorem w101 {s : Int} (E : EV n h I I) : WRP false 101 [.inr (.inl (some 1)), .inl s, vU, vU] eA h I (Go 276 0 [.inr (.inl (some 1)), .inl s, .inr (.inl (some 139)), vU] [] (mI h I)) := by
  intro h1 I1 c v e hc k139
  have L10 := ly_10 E.1
  by_cases c0 : c = 0
  · subst c0
    have e2 : Go 101 0 [.inr (.inl (some 1)), .inl s, vU, vU] [] (mI h I) = some (mI h1 I1, .inl (some (.inl v))) := e
    refine ⟨h1, zu2 I1 139 0 v, ?_, Or.inl rfl, fun a ha => by rw [zu2_row, rowU_ne ha], fun _ => by rw [zu2_row, rowU_eq, up1_eq]; rfl⟩
    rw [b276_0 L10, e2, cal_r, b276_5 k139 (by decide), b276_17]
  by_cases c1 : c = 1
  · subst c1
    have e2 : Go 101 0 [.inr (.inl (some 1)), .inl s, vU, vU] [] (mI h I) = some (mI h1 I1, .inr 0) := e
    refine ⟨hOpq h1, I1, ?_, Or.inr rfl, fun _ _ => rfl, fun q => absurd q (by decide)⟩
    rw [b276_0 L10, e2, cal_h (show zhand 276 4 0 = some 8 by decide +kernel)]
    exact b276_8 (h := hOpq h1)
  by_cases c2 : c = 2
  · subst c2
    have e2 : Go 101 0 [.inr (.inl (some 1)), .inl s, vU, vU] [] (mI h I) = some (mI h1 I1, .inr 1) := e
    refine ⟨hOpq h1, I1, ?_, Or.inr rfl, fun _ _ => rfl, fun q => absurd q (by decide)⟩
    rw [b276_0 L10, e2, cal_h (show zhand 276 4 1 = some 11 by decide +kernel)]
    exact b276_11 (h := hOpq h1)
  by_cases c3 : c = 3
  · subst c3
    have e2 : Go 101 0 [.inr (.inl (some 1)), .inl s, vU, vU] [] (mI h I) = some (mI h1 I1, .inr 2) := e
    refine ⟨hOpq h1, I1, ?_, Or.inr rfl, fun _ _ => rfl, fun q => absurd q (by decide)⟩
    rw [b276_0 L10, e2, cal_h (show zhand 276 4 2 = some 14 by decide +kernel)]
    exact b276_14 (h := hOpq h1)
  omega
theorem w102 {s : Int} (E : EV n h I I) : WRP false 102 [.inr (.inl (some 1)), .inl s, vU, vU] eA h I (Go 277 0 [.inr (.inl (some 1)), .inl s, .inr (.inl (some 139)), vU] [] (mI h I)) := by
  intro h1 I1 c v e hc k139
  have L10 := ly_10 E.1
  by_cases c0 : c = 0
  · subst c0
    have e2 : Go 102 0 [.inr (.inl (some 1)), .inl s, vU, vU] [] (mI h I) = some (mI h1 I1, .inl (some (.inl v))) := e
    refine ⟨h1, zu2 I1 139 0 v, ?_, Or.inl rfl, fun a ha => by rw [zu2_row, rowU_ne ha], fun _ => by rw [zu2_row, rowU_eq, up1_eq]; rfl⟩
    rw [b277_0 L10, e2, cal_r, b277_5 k139 (by decide), b277_17]
  by_cases c1 : c = 1
  · subst c1
    have e2 : Go 102 0 [.inr (.inl (some 1)), .inl s, vU, vU] [] (mI h I) = some (mI h1 I1, .inr 0) := e
    refine ⟨hOpq h1, I1, ?_, Or.inr rfl, fun _ _ => rfl, fun q => absurd q (by decide)⟩
    rw [b277_0 L10, e2, cal_h (show zhand 277 4 0 = some 8 by decide +kernel)]
    exact b277_8 (h := hOpq h1)
  by_cases c2 : c = 2
  · subst c2
    have e2 : Go 102 0 [.inr (.inl (some 1)), .inl s, vU, vU] [] (mI h I) = some (mI h1 I1, .inr 1) := e
    refine ⟨hOpq h1, I1, ?_, Or.inr rfl, fun _ _ => rfl, fun q => absurd q (by decide)⟩
    rw [b277_0 L10, e2, cal_h (show zhand 277 4 1 = some 11 by decide +kernel)]
    exact b277_11 (h := hOpq h1)
  by_cases c3 : c = 3
  · subst c3
    have e2 : Go 102 0 [.inr (.inl (some 1)), .inl s, vU, vU] [] (mI h I) = some (mI h1 I1, .inr 2) := e
    refine ⟨hOpq h1, I1, ?_, Or.inr rfl, fun _ _ => rfl, fun q => absurd q (by decide)⟩
    rw [b277_0 L10, e2, cal_h (show zhand 277 4 2 = some 14 by decide +kernel)]
    exact b277_14 (h := hOpq h1)
  omega
theorem w103 {s f d one oth : Int} (E : EV n h I I) : WRP false 103 [.inr (.inl (some 1)), .inl s, .inl f, .inl d, .inl one, .inl oth, vU, vU, vU, vU] eA h I (Go 278 0 [.inr (.inl (some 1)), .inl s, .inl f, .inl d, .inl one, .inl oth, .inr (.inl (some 139)), vU] [] (mI h I)) := by
  intro h1 I1 c v e hc k139
  have L10 := ly_10 E.1
  by_cases c0 : c = 0
  · subst c0
    have e2 : Go 103 0 [.inr (.inl (some 1)), .inl s, .inl f, .inl d, .inl one, .inl oth, vU, vU, vU, vU] [] (mI h I) = some (mI h1 I1, .inl (some (.inl v))) := e
    refine ⟨h1, zu2 I1 139 0 v, ?_, Or.inl rfl, fun a ha => by rw [zu2_row, rowU_ne ha], fun _ => by rw [zu2_row, rowU_eq, up1_eq]; rfl⟩
    rw [b278_0 L10, e2, cal_r, b278_9 k139 (by decide), b278_21]
  by_cases c1 : c = 1
  · subst c1
    have e2 : Go 103 0 [.inr (.inl (some 1)), .inl s, .inl f, .inl d, .inl one, .inl oth, vU, vU, vU, vU] [] (mI h I) = some (mI h1 I1, .inr 0) := e
    refine ⟨hOpq h1, I1, ?_, Or.inr rfl, fun _ _ => rfl, fun q => absurd q (by decide)⟩
    rw [b278_0 L10, e2, cal_h (show zhand 278 11 0 = some 12 by decide +kernel)]
    exact b278_12 (h := hOpq h1)
  by_cases c2 : c = 2
  · subst c2
    have e2 : Go 103 0 [.inr (.inl (some 1)), .inl s, .inl f, .inl d, .inl one, .inl oth, vU, vU, vU, vU] [] (mI h I) = some (mI h1 I1, .inr 1) := e
    refine ⟨hOpq h1, I1, ?_, Or.inr rfl, fun _ _ => rfl, fun q => absurd q (by decide)⟩
    rw [b278_0 L10, e2, cal_h (show zhand 278 11 1 = some 15 by decide +kernel)]
    exact b278_15 (h := hOpq h1)
  by_cases c3 : c = 3
  · subst c3
    have e2 : Go 103 0 [.inr (.inl (some 1)), .inl s, .inl f, .inl d, .inl one, .inl oth, vU, vU, vU, vU] [] (mI h I) = some (mI h1 I1, .inr 2) := e
    refine ⟨hOpq h1, I1, ?_, Or.inr rfl, fun _ _ => rfl, fun q => absurd q (by decide)⟩
    rw [b278_0 L10, e2, cal_h (show zhand 278 11 2 = some 18 by decide +kernel)]
    exact b278_18 (h := hOpq h1)
  omega
theorem w104 {s x : Int} (E : EV n h I I) : WRP false 104 [.inr (.inl (some 1)), .inl s, .inl x, vU, vU] eA h I (Go 279 0 [.inr (.inl (some 1)), .inl s, .inl x, .inr (.inl (some 139)), vU] [] (mI h I)) := by
  intro h1 I1 c v e hc k139
  have L10 := ly_10 E.1
  by_cases c0 : c = 0
  · subst c0
    have e2 : Go 104 0 [.inr (.inl (some 1)), .inl s, .inl x, vU, vU] [] (mI h I) = some (mI h1 I1, .inl (some (.inl v))) := e
    refine ⟨h1, zu2 I1 139 0 v, ?_, Or.inl rfl, fun a ha => by rw [zu2_row, rowU_ne ha], fun _ => by rw [zu2_row, rowU_eq, up1_eq]; rfl⟩
    rw [b279_0 L10, e2, cal_r, b279_6 k139 (by decide), b279_18]
  by_cases c1 : c = 1
  · subst c1
    have e2 : Go 104 0 [.inr (.inl (some 1)), .inl s, .inl x, vU, vU] [] (mI h I) = some (mI h1 I1, .inr 0) := e
    refine ⟨hOpq h1, I1, ?_, Or.inr rfl, fun _ _ => rfl, fun q => absurd q (by decide)⟩
    rw [b279_0 L10, e2, cal_h (show zhand 279 5 0 = some 9 by decide +kernel)]
    exact b279_9 (h := hOpq h1)
  by_cases c2 : c = 2
  · subst c2
    have e2 : Go 104 0 [.inr (.inl (some 1)), .inl s, .inl x, vU, vU] [] (mI h I) = some (mI h1 I1, .inr 1) := e
    refine ⟨hOpq h1, I1, ?_, Or.inr rfl, fun _ _ => rfl, fun q => absurd q (by decide)⟩
    rw [b279_0 L10, e2, cal_h (show zhand 279 5 1 = some 12 by decide +kernel)]
    exact b279_12 (h := hOpq h1)
  by_cases c3 : c = 3
  · subst c3
    have e2 : Go 104 0 [.inr (.inl (some 1)), .inl s, .inl x, vU, vU] [] (mI h I) = some (mI h1 I1, .inr 2) := e
    refine ⟨hOpq h1, I1, ?_, Or.inr rfl, fun _ _ => rfl, fun q => absurd q (by decide)⟩
    rw [b279_0 L10, e2, cal_h (show zhand 279 5 2 = some 15 by decide +kernel)]
    exact b279_15 (h := hOpq h1)
  omega
theorem w106 {x : Int} (E : EV n h I I) : WRP false 106 [.inr (.inl (some 1)), .inl x] eA h I (Go 280 0 [.inr (.inl (some 1)), .inl x, .inr (.inl (some 139)), vU] [] (mI h I)) := by
  intro h1 I1 c v e hc k139
  have hm := CBD_c (t106 E) (by decide) eA_i e hc
  have L10 := ly_10 E.1
  by_cases c0 : c = 0
  · subst c0
    have e2 : Go 106 0 [.inr (.inl (some 1)), .inl x] [] (mI h I) = some (mI h1 I1, .inl (some (.inl v))) := e
    refine ⟨h1, zu2 I1 139 0 v, ?_, Or.inl rfl, fun a ha => by rw [zu2_row, rowU_ne ha], fun _ => by rw [zu2_row, rowU_eq, up1_eq]; rfl⟩
    rw [b280_0 L10, e2, cal_r, b280_5 k139 (by decide), b280_11]
  by_cases c1 : c = 1
  · subst c1
    have e2 : Go 106 0 [.inr (.inl (some 1)), .inl x] [] (mI h I) = some (mI h1 I1, .inr 0) := e
    refine ⟨hOpq h1, I1, ?_, Or.inr rfl, fun _ _ => rfl, fun q => absurd q (by decide)⟩
    rw [b280_0 L10, e2, cal_h (show zhand 280 4 0 = some 8 by decide +kernel)]
    exact b280_8 (h := hOpq h1)
  omega
theorem w107 {x : Int} (E : EV n h I I) : WRP false 107 [.inr (.inl (some 1)), .inl x] eA h I (Go 281 0 [.inr (.inl (some 1)), .inl x, .inr (.inl (some 139)), vU] [] (mI h I)) := by
  intro h1 I1 c v e hc k139
  have hm := CBD_c (t107 E) (by decide) eA_i e hc
  have L10 := ly_10 E.1
  by_cases c0 : c = 0
  · subst c0
    have e2 : Go 107 0 [.inr (.inl (some 1)), .inl x] [] (mI h I) = some (mI h1 I1, .inl (some (.inl v))) := e
    refine ⟨h1, zu2 I1 139 0 v, ?_, Or.inl rfl, fun a ha => by rw [zu2_row, rowU_ne ha], fun _ => by rw [zu2_row, rowU_eq, up1_eq]; rfl⟩
    rw [b281_0 L10, e2, cal_r, b281_5 k139 (by decide), b281_11]
  by_cases c1 : c = 1
  · subst c1
    have e2 : Go 107 0 [.inr (.inl (some 1)), .inl x] [] (mI h I) = some (mI h1 I1, .inr 0) := e
    refine ⟨hOpq h1, I1, ?_, Or.inr rfl, fun _ _ => rfl, fun q => absurd q (by decide)⟩
    rw [b281_0 L10, e2, cal_h (show zhand 281 4 0 = some 8 by decide +kernel)]
    exact b281_8 (h := hOpq h1)
  omega
theorem w108 {x j : Int} (E : EV n h I I) : WRP false 108 [.inr (.inl (some 1)), .inl x, .inl j] eA h I (Go 282 0 [.inr (.inl (some 1)), .inl x, .inl j, .inr (.inl (some 139)), vU] [] (mI h I)) := by
  intro h1 I1 c v e hc k139
  have hm := CBD_c (t108 E) (by decide) eA_i e hc
  have L10 := ly_10 E.1
  by_cases c0 : c = 0
  · subst c0
    have e2 : Go 108 0 [.inr (.inl (some 1)), .inl x, .inl j] [] (mI h I) = some (mI h1 I1, .inl (some (.inl v))) := e
    refine ⟨h1, zu2 I1 139 0 v, ?_, Or.inl rfl, fun a ha => by rw [zu2_row, rowU_ne ha], fun _ => by rw [zu2_row, rowU_eq, up1_eq]; rfl⟩
    rw [b282_0 L10, e2, cal_r, b282_6 k139 (by decide), b282_12]
  by_cases c1 : c = 1
  · subst c1
    have e2 : Go 108 0 [.inr (.inl (some 1)), .inl x, .inl j] [] (mI h I) = some (mI h1 I1, .inr 0) := e
    refine ⟨hOpq h1, I1, ?_, Or.inr rfl, fun _ _ => rfl, fun q => absurd q (by decide)⟩
    rw [b282_0 L10, e2, cal_h (show zhand 282 5 0 = some 9 by decide +kernel)]
    exact b282_9 (h := hOpq h1)
  omega
theorem w109 {s x j : Int} (E : EV n h I I) : WRP false 109 [.inr (.inl (some 1)), .inl s, .inl x, .inl j, vU, vU, vU, vU] eC h I (Go 283 0 [.inr (.inl (some 1)), .inl s, .inl x, .inl j, .inr (.inl (some 139)), vU] [] (mI h I)) := by
  intro h1 I1 c v e hc k139
  have hm := CBD_c (t109 E) (by decide) eC_i e hc
  have L10 := ly_10 E.1
  by_cases c0 : c = 0
  · subst c0
    have e2 : Go 109 0 [.inr (.inl (some 1)), .inl s, .inl x, .inl j, vU, vU, vU, vU] [] (mI h I) = some (mI h1 I1, .inl (some (.inl v))) := e
    refine ⟨h1, zu2 I1 139 0 v, ?_, Or.inl rfl, fun a ha => by rw [zu2_row, rowU_ne ha], fun _ => by rw [zu2_row, rowU_eq, up1_eq]; rfl⟩
    rw [b283_0 L10, e2, cal_r, b283_7 k139 (by decide), b283_16]
  by_cases c1 : c = 1
  · subst c1
    have e2 : Go 109 0 [.inr (.inl (some 1)), .inl s, .inl x, .inl j, vU, vU, vU, vU] [] (mI h I) = some (mI h1 I1, .inr 0) := e
    refine ⟨hOpq h1, I1, ?_, Or.inr rfl, fun _ _ => rfl, fun q => absurd q (by decide)⟩
    rw [b283_0 L10, e2, cal_h (show zhand 283 7 0 = some 10 by decide +kernel)]
    exact b283_10 (h := hOpq h1)
  by_cases c2 : c = 2
  · subst c2
    have e2 : Go 109 0 [.inr (.inl (some 1)), .inl s, .inl x, .inl j, vU, vU, vU, vU] [] (mI h I) = some (mI h1 I1, .inr 2) := e
    refine ⟨hOpq h1, I1, ?_, Or.inr rfl, fun _ _ => rfl, fun q => absurd q (by decide)⟩
    rw [b283_0 L10, e2, cal_h (show zhand 283 7 2 = some 13 by decide +kernel)]
    exact b283_13 (h := hOpq h1)
  omega
theorem w110 {s x : Int} (E : EV n h I I) : WRP false 110 [.inr (.inl (some 1)), .inl s, .inl x, vU, vU] eA h I (Go 284 0 [.inr (.inl (some 1)), .inl s, .inl x, .inr (.inl (some 139)), vU] [] (mI h I)) := by
  intro h1 I1 c v e hc k139
  have hm := CBD_c (t110 E) (by decide) eA_i e hc
  have L10 := ly_10 E.1
  by_cases c0 : c = 0
  · subst c0
    have e2 : Go 110 0 [.inr (.inl (some 1)), .inl s, .inl x, vU, vU] [] (mI h I) = some (mI h1 I1, .inl (some (.inl v))) := e
    refine ⟨h1, zu2 I1 139 0 v, ?_, Or.inl rfl, fun a ha => by rw [zu2_row, rowU_ne ha], fun _ => by rw [zu2_row, rowU_eq, up1_eq]; rfl⟩
    rw [b284_0 L10, e2, cal_r, b284_6 k139 (by decide), b284_12]
  by_cases c1 : c = 1
  · subst c1
    have e2 : Go 110 0 [.inr (.inl (some 1)), .inl s, .inl x, vU, vU] [] (mI h I) = some (mI h1 I1, .inr 0) := e
    refine ⟨hOpq h1, I1, ?_, Or.inr rfl, fun _ _ => rfl, fun q => absurd q (by decide)⟩
    rw [b284_0 L10, e2, cal_h (show zhand 284 5 0 = some 9 by decide +kernel)]
    exact b284_9 (h := hOpq h1)
  omega
theorem w111 {s : Int} (E : EV n h I I) : WRP false 111 [.inr (.inl (some 1)), .inl s] eA h I (Go 285 0 [.inr (.inl (some 1)), .inl s, .inr (.inl (some 139)), vU] [] (mI h I)) := by
  intro h1 I1 c v e hc k139
  have hm := CBD_c (t111 E) (by decide) eA_i e hc
  have L10 := ly_10 E.1
  by_cases c0 : c = 0
  · subst c0
    have e2 : Go 111 0 [.inr (.inl (some 1)), .inl s] [] (mI h I) = some (mI h1 I1, .inl (some (.inl v))) := e
    refine ⟨h1, zu2 I1 139 0 v, ?_, Or.inl rfl, fun a ha => by rw [zu2_row, rowU_ne ha], fun _ => by rw [zu2_row, rowU_eq, up1_eq]; rfl⟩
    rw [b285_0 L10, e2, cal_r, b285_5 k139 (by decide), b285_11]
  by_cases c1 : c = 1
  · subst c1
    have e2 : Go 111 0 [.inr (.inl (some 1)), .inl s] [] (mI h I) = some (mI h1 I1, .inr 0) := e
    refine ⟨hOpq h1, I1, ?_, Or.inr rfl, fun _ _ => rfl, fun q => absurd q (by decide)⟩
    rw [b285_0 L10, e2, cal_h (show zhand 285 4 0 = some 8 by decide +kernel)]
    exact b285_8 (h := hOpq h1)
  omega
theorem w112 {s : Int} (E : EV n h I I) : WRP false 112 [.inr (.inl (some 1)), .inl s] eA h I (Go 286 0 [.inr (.inl (some 1)), .inl s, .inr (.inl (some 139)), vU] [] (mI h I)) := by
  intro h1 I1 c v e hc k139
  have hm := CBD_c (t112 E) (by decide) eA_i e hc
  have L10 := ly_10 E.1
  by_cases c0 : c = 0
  · subst c0
    have e2 : Go 112 0 [.inr (.inl (some 1)), .inl s] [] (mI h I) = some (mI h1 I1, .inl (some (.inl v))) := e
    refine ⟨h1, zu2 I1 139 0 v, ?_, Or.inl rfl, fun a ha => by rw [zu2_row, rowU_ne ha], fun _ => by rw [zu2_row, rowU_eq, up1_eq]; rfl⟩
    rw [b286_0 L10, e2, cal_r, b286_5 k139 (by decide), b286_11]
  by_cases c1 : c = 1
  · subst c1
    have e2 : Go 112 0 [.inr (.inl (some 1)), .inl s] [] (mI h I) = some (mI h1 I1, .inr 0) := e
    refine ⟨hOpq h1, I1, ?_, Or.inr rfl, fun _ _ => rfl, fun q => absurd q (by decide)⟩
    rw [b286_0 L10, e2, cal_h (show zhand 286 4 0 = some 8 by decide +kernel)]
    exact b286_8 (h := hOpq h1)
  omega
theorem w113 {s x : Int} (E : EV n h I I) : WRP false 113 [.inr (.inl (some 1)), .inl s, .inl x, vU] eA h I (Go 287 0 [.inr (.inl (some 1)), .inl s, .inl x, .inr (.inl (some 139)), vU] [] (mI h I)) := by
  intro h1 I1 c v e hc k139
  have hm := CBD_c (t113 E) (by decide) eA_i e hc
  have L10 := ly_10 E.1
  by_cases c0 : c = 0
  · subst c0
    have e2 : Go 113 0 [.inr (.inl (some 1)), .inl s, .inl x, vU] [] (mI h I) = some (mI h1 I1, .inl (some (.inl v))) := e
    refine ⟨h1, zu2 I1 139 0 v, ?_, Or.inl rfl, fun a ha => by rw [zu2_row, rowU_ne ha], fun _ => by rw [zu2_row, rowU_eq, up1_eq]; rfl⟩
    rw [b287_0 L10, e2, cal_r, b287_6 k139 (by decide), b287_15]
  by_cases c1 : c = 1
  · subst c1
    have e2 : Go 113 0 [.inr (.inl (some 1)), .inl s, .inl x, vU] [] (mI h I) = some (mI h1 I1, .inr 0) := e
    refine ⟨hOpq h1, I1, ?_, Or.inr rfl, fun _ _ => rfl, fun q => absurd q (by decide)⟩
    rw [b287_0 L10, e2, cal_h (show zhand 287 5 0 = some 9 by decide +kernel)]
    exact b287_9 (h := hOpq h1)
  by_cases c2 : c = 2
  · subst c2
    have e2 : Go 113 0 [.inr (.inl (some 1)), .inl s, .inl x, vU] [] (mI h I) = some (mI h1 I1, .inr 1) := e
    refine ⟨hOpq h1, I1, ?_, Or.inr rfl, fun _ _ => rfl, fun q => absurd q (by decide)⟩
    rw [b287_0 L10, e2, cal_h (show zhand 287 5 1 = some 12 by decide +kernel)]
    exact b287_12 (h := hOpq h1)
  omega
theorem w114 {x : Int} (E : EV n h I I) (hn : n ≤ 9998) : WRP false 114 [.inr (.inl (some 1)), .inl x] eB h I (Go 288 0 [.inr (.inl (some 1)), .inl x, .inr (.inl (some 139)), vU] [] (mI h I)) := by
  intro h1 I1 c v e hc k139
  have hm := CBD_c (t114 E hn) (by decide) eB_i e hc
  have L10 := ly_10 E.1
  by_cases c0 : c = 0
  · subst c0
    have e2 : Go 114 0 [.inr (.inl (some 1)), .inl x] [] (mI h I) = some (mI h1 I1, .inl (some (.inl v))) := e
    refine ⟨h1, zu2 I1 139 0 v, ?_, Or.inl rfl, fun a ha => by rw [zu2_row, rowU_ne ha], fun _ => by rw [zu2_row, rowU_eq, up1_eq]; rfl⟩
    rw [b288_0 L10, e2, cal_r, b288_5 k139 (by decide), b288_11]
  by_cases c1 : c = 1
  · subst c1
    have e2 : Go 114 0 [.inr (.inl (some 1)), .inl x] [] (mI h I) = some (mI h1 I1, .inr 1) := e
    refine ⟨hOpq h1, I1, ?_, Or.inr rfl, fun _ _ => rfl, fun q => absurd q (by decide)⟩
    rw [b288_0 L10, e2, cal_h (show zhand 288 4 1 = some 8 by decide +kernel)]
    exact b288_8 (h := hOpq h1)
  omega
theorem w115 {s k old now : Int} (E : EV n h I I) : WRP false 115 [.inr (.inl (some 1)), .inl s, .inl k, .inl old, .inl now, vU, vU, vU, vU] eA h I (Go 289 0 [.inr (.inl (some 1)), .inl s, .inl k, .inl old, .inl now, .inr (.inl (some 139)), vU] [] (mI h I)) := by
  intro h1 I1 c v e hc k139
  have hm := CBD_c (t115 E) (by decide) eA_i e hc
  have L10 := ly_10 E.1
  by_cases c0 : c = 0
  · subst c0
    have e2 : Go 115 0 [.inr (.inl (some 1)), .inl s, .inl k, .inl old, .inl now, vU, vU, vU, vU] [] (mI h I) = some (mI h1 I1, .inl (some (.inl v))) := e
    refine ⟨h1, zu2 I1 139 0 v, ?_, Or.inl rfl, fun a ha => by rw [zu2_row, rowU_ne ha], fun _ => by rw [zu2_row, rowU_eq, up1_eq]; rfl⟩
    rw [b289_0 L10, e2, cal_r, b289_8 k139 (by decide), b289_17]
  by_cases c1 : c = 1
  · subst c1
    have e2 : Go 115 0 [.inr (.inl (some 1)), .inl s, .inl k, .inl old, .inl now, vU, vU, vU, vU] [] (mI h I) = some (mI h1 I1, .inr 0) := e
    refine ⟨hOpq h1, I1, ?_, Or.inr rfl, fun _ _ => rfl, fun q => absurd q (by decide)⟩
    rw [b289_0 L10, e2, cal_h (show zhand 289 9 0 = some 11 by decide +kernel)]
    exact b289_11 (h := hOpq h1)
  by_cases c2 : c = 2
  · subst c2
    have e2 : Go 115 0 [.inr (.inl (some 1)), .inl s, .inl k, .inl old, .inl now, vU, vU, vU, vU] [] (mI h I) = some (mI h1 I1, .inr 1) := e
    refine ⟨hOpq h1, I1, ?_, Or.inr rfl, fun _ _ => rfl, fun q => absurd q (by decide)⟩
    rw [b289_0 L10, e2, cal_h (show zhand 289 9 1 = some 14 by decide +kernel)]
    exact b289_14 (h := hOpq h1)
  omega
theorem w116 {s : Int} (E : EV n h I I) (hn : n ≤ 512) : WRP true 116 [.inr (.inl (some 1)), .inl s, vU, vU] eC h I (Go 290 0 [.inr (.inl (some 1)), .inl s, .inr (.inl (some 139)), vU] [] (mI h I)) := by
  intro h1 I1 c v e hc k139
  have hm := CBD_c (t116 E hn) (by decide) eC_i e hc
  have L10 := ly_10 E.1
  by_cases c0 : c = 0
  · subst c0
    have e2 : Go 116 0 [.inr (.inl (some 1)), .inl s, vU, vU] [] (mI h I) = some (mI h1 I1, .inl (some (.inl v))) := e
    by_cases v0 : v = 0
    · refine ⟨h1, zu2 I1 139 0 0, ?_, Or.inl rfl, fun a ha => by rw [zu2_row, rowU_ne ha], fun _ => by rw [zu2_row, rowU_eq, up1_eq]; unfold wv; rw [if_pos rfl, if_pos v0]⟩
      rw [b290_0 L10, e2, cal_r, b290_5, if_pos v0, b290_8, b290_9 k139 (by decide), b290_17]
    · refine ⟨h1, zu2 I1 139 0 1, ?_, Or.inl rfl, fun a ha => by rw [zu2_row, rowU_ne ha], fun _ => by rw [zu2_row, rowU_eq, up1_eq]; unfold wv; rw [if_pos rfl, if_neg v0]⟩
      rw [b290_0 L10, e2, cal_r, b290_5, if_neg v0, b290_6, b290_9 k139 (by decide), b290_17]
  by_cases c1 : c = 1
  · subst c1
    have e2 : Go 116 0 [.inr (.inl (some 1)), .inl s, vU, vU] [] (mI h I) = some (mI h1 I1, .inr 0) := e
    refine ⟨hOpq h1, I1, ?_, Or.inr rfl, fun _ _ => rfl, fun q => absurd q (by decide)⟩
    rw [b290_0 L10, e2, cal_h (show zhand 290 4 0 = some 11 by decide +kernel)]
    exact b290_11 (h := hOpq h1)
  by_cases c2 : c = 2
  · subst c2
    have e2 : Go 116 0 [.inr (.inl (some 1)), .inl s, vU, vU] [] (mI h I) = some (mI h1 I1, .inr 2) := e
    refine ⟨hOpq h1, I1, ?_, Or.inr rfl, fun _ _ => rfl, fun q => absurd q (by decide)⟩
    rw [b290_0 L10, e2, cal_h (show zhand 290 4 2 = some 14 by decide +kernel)]
    exact b290_14 (h := hOpq h1)
  omega
theorem w117 {s r : Int} (E : EV n h I I) : WRP false 117 [.inr (.inl (some 1)), .inl s, .inl r, vU] eA h I (Go 291 0 [.inr (.inl (some 1)), .inl s, .inl r, .inr (.inl (some 139)), vU] [] (mI h I)) := by
  intro h1 I1 c v e hc k139
  have hm := CBD_c (t117 E) (by decide) eA_i e hc
  have L10 := ly_10 E.1
  by_cases c0 : c = 0
  · subst c0
    have e2 : Go 117 0 [.inr (.inl (some 1)), .inl s, .inl r, vU] [] (mI h I) = some (mI h1 I1, .inl (some (.inl v))) := e
    refine ⟨h1, zu2 I1 139 0 v, ?_, Or.inl rfl, fun a ha => by rw [zu2_row, rowU_ne ha], fun _ => by rw [zu2_row, rowU_eq, up1_eq]; rfl⟩
    rw [b291_0 L10, e2, cal_r, b291_6 k139 (by decide), b291_12]
  by_cases c1 : c = 1
  · subst c1
    have e2 : Go 117 0 [.inr (.inl (some 1)), .inl s, .inl r, vU] [] (mI h I) = some (mI h1 I1, .inr 0) := e
    refine ⟨hOpq h1, I1, ?_, Or.inr rfl, fun _ _ => rfl, fun q => absurd q (by decide)⟩
    rw [b291_0 L10, e2, cal_h (show zhand 291 5 0 = some 9 by decide +kernel)]
    exact b291_9 (h := hOpq h1)
  omega
theorem w118 {s : Int} (E : EV n h I I) : WRP false 118 [.inr (.inl (some 1)), .inl s] eA h I (Go 292 0 [.inr (.inl (some 1)), .inl s, .inr (.inl (some 139)), vU] [] (mI h I)) := by
  intro h1 I1 c v e hc k139
  have hm := CBD_c (t118 E) (by decide) eA_i e hc
  have L10 := ly_10 E.1
  by_cases c0 : c = 0
  · subst c0
    have e2 : Go 118 0 [.inr (.inl (some 1)), .inl s] [] (mI h I) = some (mI h1 I1, .inl (some (.inl v))) := e
    refine ⟨h1, zu2 I1 139 0 v, ?_, Or.inl rfl, fun a ha => by rw [zu2_row, rowU_ne ha], fun _ => by rw [zu2_row, rowU_eq, up1_eq]; rfl⟩
    rw [b292_0 L10, e2, cal_r, b292_5 k139 (by decide), b292_11]
  by_cases c1 : c = 1
  · subst c1
    have e2 : Go 118 0 [.inr (.inl (some 1)), .inl s] [] (mI h I) = some (mI h1 I1, .inr 0) := e
    refine ⟨hOpq h1, I1, ?_, Or.inr rfl, fun _ _ => rfl, fun q => absurd q (by decide)⟩
    rw [b292_0 L10, e2, cal_h (show zhand 292 4 0 = some 8 by decide +kernel)]
    exact b292_8 (h := hOpq h1)
  omega
theorem w119 {s x : Int} (E : EV n h I I) : WRP true 119 [.inr (.inl (some 1)), .inl s, .inl x, vU] eA h I (Go 293 0 [.inr (.inl (some 1)), .inl s, .inl x, .inr (.inl (some 139)), vU] [] (mI h I)) := by
  intro h1 I1 c v e hc k139
  have hm := CBD_c (t119 E) (by decide) eA_i e hc
  have L10 := ly_10 E.1
  by_cases c0 : c = 0
  · subst c0
    have e2 : Go 119 0 [.inr (.inl (some 1)), .inl s, .inl x, vU] [] (mI h I) = some (mI h1 I1, .inl (some (.inl v))) := e
    by_cases v0 : v = 0
    · refine ⟨h1, zu2 I1 139 0 0, ?_, Or.inl rfl, fun a ha => by rw [zu2_row, rowU_ne ha], fun _ => by rw [zu2_row, rowU_eq, up1_eq]; unfold wv; rw [if_pos rfl, if_pos v0]⟩
      rw [b293_0 L10, e2, cal_r, b293_6, if_pos v0, b293_9, b293_10 k139 (by decide), b293_15]
    · refine ⟨h1, zu2 I1 139 0 1, ?_, Or.inl rfl, fun a ha => by rw [zu2_row, rowU_ne ha], fun _ => by rw [zu2_row, rowU_eq, up1_eq]; unfold wv; rw [if_pos rfl, if_neg v0]⟩
      rw [b293_0 L10, e2, cal_r, b293_6, if_neg v0, b293_7, b293_10 k139 (by decide), b293_15]
  by_cases c1 : c = 1
  · subst c1
    have e2 : Go 119 0 [.inr (.inl (some 1)), .inl s, .inl x, vU] [] (mI h I) = some (mI h1 I1, .inr 0) := e
    refine ⟨hOpq h1, I1, ?_, Or.inr rfl, fun _ _ => rfl, fun q => absurd q (by decide)⟩
    rw [b293_0 L10, e2, cal_h (show zhand 293 5 0 = some 12 by decide +kernel)]
    exact b293_12 (h := hOpq h1)
  omega
theorem w120 {s x : Int} (E : EV n h I I) : WRP true 120 [.inr (.inl (some 1)), .inl s, .inl x, vU] eA h I (Go 294 0 [.inr (.inl (some 1)), .inl s, .inl x, .inr (.inl (some 139)), vU] [] (mI h I)) := by
  intro h1 I1 c v e hc k139
  have hm := CBD_c (t120 E) (by decide) eA_i e hc
  have L10 := ly_10 E.1
  by_cases c0 : c = 0
  · subst c0
    have e2 : Go 120 0 [.inr (.inl (some 1)), .inl s, .inl x, vU] [] (mI h I) = some (mI h1 I1, .inl (some (.inl v))) := e
    by_cases v0 : v = 0
    · refine ⟨h1, zu2 I1 139 0 0, ?_, Or.inl rfl, fun a ha => by rw [zu2_row, rowU_ne ha], fun _ => by rw [zu2_row, rowU_eq, up1_eq]; unfold wv; rw [if_pos rfl, if_pos v0]⟩
      rw [b294_0 L10, e2, cal_r, b294_6, if_pos v0, b294_9, b294_10 k139 (by decide), b294_15]
    · refine ⟨h1, zu2 I1 139 0 1, ?_, Or.inl rfl, fun a ha => by rw [zu2_row, rowU_ne ha], fun _ => by rw [zu2_row, rowU_eq, up1_eq]; unfold wv; rw [if_pos rfl, if_neg v0]⟩
      rw [b294_0 L10, e2, cal_r, b294_6, if_neg v0, b294_7, b294_10 k139 (by decide), b294_15]
  by_cases c1 : c = 1
  · subst c1
    have e2 : Go 120 0 [.inr (.inl (some 1)), .inl s, .inl x, vU] [] (mI h I) = some (mI h1 I1, .inr 0) := e
    refine ⟨hOpq h1, I1, ?_, Or.inr rfl, fun _ _ => rfl, fun q => absurd q (by decide)⟩
    rw [b294_0 L10, e2, cal_h (show zhand 294 5 0 = some 12 by decide +kernel)]
    exact b294_12 (h := hOpq h1)
  omega
theorem w121 {s x y : Int} (E : EV n h I I) : WRP false 121 [.inr (.inl (some 1)), .inl s, .inl x, .inl y, vU, vU, vU, vU, vU] eA h I (Go 295 0 [.inr (.inl (some 1)), .inl s, .inl x, .inl y, .inr (.inl (some 139)), vU] [] (mI h I)) := by
  intro h1 I1 c v e hc k139
  have L10 := ly_10 E.1
  by_cases c0 : c = 0
  · subst c0
    have e2 : Go 121 0 [.inr (.inl (some 1)), .inl s, .inl x, .inl y, vU, vU, vU, vU, vU] [] (mI h I) = some (mI h1 I1, .inl (some (.inl v))) := e
    refine ⟨h1, zu2 I1 139 0 v, ?_, Or.inl rfl, fun a ha => by rw [zu2_row, rowU_ne ha], fun _ => by rw [zu2_row, rowU_eq, up1_eq]; rfl⟩
    rw [b295_0 L10, e2, cal_r, b295_7 k139 (by decide), b295_19]
  by_cases c1 : c = 1
  · subst c1
    have e2 : Go 121 0 [.inr (.inl (some 1)), .inl s, .inl x, .inl y, vU, vU, vU, vU, vU] [] (mI h I) = some (mI h1 I1, .inr 0) := e
    refine ⟨hOpq h1, I1, ?_, Or.inr rfl, fun _ _ => rfl, fun q => absurd q (by decide)⟩
    rw [b295_0 L10, e2, cal_h (show zhand 295 7 0 = some 10 by decide +kernel)]
    exact b295_10 (h := hOpq h1)
  by_cases c2 : c = 2
  · subst c2
    have e2 : Go 121 0 [.inr (.inl (some 1)), .inl s, .inl x, .inl y, vU, vU, vU, vU, vU] [] (mI h I) = some (mI h1 I1, .inr 1) := e
    refine ⟨hOpq h1, I1, ?_, Or.inr rfl, fun _ _ => rfl, fun q => absurd q (by decide)⟩
    rw [b295_0 L10, e2, cal_h (show zhand 295 7 1 = some 13 by decide +kernel)]
    exact b295_13 (h := hOpq h1)
  by_cases c3 : c = 3
  · subst c3
    have e2 : Go 121 0 [.inr (.inl (some 1)), .inl s, .inl x, .inl y, vU, vU, vU, vU, vU] [] (mI h I) = some (mI h1 I1, .inr 2) := e
    refine ⟨hOpq h1, I1, ?_, Or.inr rfl, fun _ _ => rfl, fun q => absurd q (by decide)⟩
    rw [b295_0 L10, e2, cal_h (show zhand 295 7 2 = some 16 by decide +kernel)]
    exact b295_16 (h := hOpq h1)
  omega
theorem w122 {s x y : Int} (E : EV n h I I) (hn : n ≤ 9999) : WRP false 122 [.inr (.inl (some 1)), .inl s, .inl x, .inl y, vU, vU, vU] eA h I (Go 296 0 [.inr (.inl (some 1)), .inl s, .inl x, .inl y, .inr (.inl (some 139)), vU] [] (mI h I)) := by
  intro h1 I1 c v e hc k139
  have hm := CBD_c (t122 E hn) (by decide) eA_i e hc
  have L10 := ly_10 E.1
  by_cases c0 : c = 0
  · subst c0
    have e2 : Go 122 0 [.inr (.inl (some 1)), .inl s, .inl x, .inl y, vU, vU, vU] [] (mI h I) = some (mI h1 I1, .inl (some (.inl v))) := e
    refine ⟨h1, zu2 I1 139 0 v, ?_, Or.inl rfl, fun a ha => by rw [zu2_row, rowU_ne ha], fun _ => by rw [zu2_row, rowU_eq, up1_eq]; rfl⟩
    rw [b296_0 L10, e2, cal_r, b296_7 k139 (by decide), b296_16]
  by_cases c1 : c = 1
  · subst c1
    have e2 : Go 122 0 [.inr (.inl (some 1)), .inl s, .inl x, .inl y, vU, vU, vU] [] (mI h I) = some (mI h1 I1, .inr 0) := e
    refine ⟨hOpq h1, I1, ?_, Or.inr rfl, fun _ _ => rfl, fun q => absurd q (by decide)⟩
    rw [b296_0 L10, e2, cal_h (show zhand 296 7 0 = some 10 by decide +kernel)]
    exact b296_10 (h := hOpq h1)
  by_cases c2 : c = 2
  · subst c2
    have e2 : Go 122 0 [.inr (.inl (some 1)), .inl s, .inl x, .inl y, vU, vU, vU] [] (mI h I) = some (mI h1 I1, .inr 1) := e
    refine ⟨hOpq h1, I1, ?_, Or.inr rfl, fun _ _ => rfl, fun q => absurd q (by decide)⟩
    rw [b296_0 L10, e2, cal_h (show zhand 296 7 1 = some 13 by decide +kernel)]
    exact b296_13 (h := hOpq h1)
  omega
theorem w123 {x : Int} (E : EV n h I I) : WRP false 123 [.inr (.inl (some 1)), .inl x] eA h I (Go 297 0 [.inr (.inl (some 1)), .inl x, .inr (.inl (some 139)), vU] [] (mI h I)) := by
  intro h1 I1 c v e hc k139
  have hm := CBD_c (t123 E) (by decide) eA_i e hc
  have L10 := ly_10 E.1
  by_cases c0 : c = 0
  · subst c0
    have e2 : Go 123 0 [.inr (.inl (some 1)), .inl x] [] (mI h I) = some (mI h1 I1, .inl (some (.inl v))) := e
    refine ⟨h1, zu2 I1 139 0 v, ?_, Or.inl rfl, fun a ha => by rw [zu2_row, rowU_ne ha], fun _ => by rw [zu2_row, rowU_eq, up1_eq]; rfl⟩
    rw [b297_0 L10, e2, cal_r, b297_5 k139 (by decide), b297_11]
  by_cases c1 : c = 1
  · subst c1
    have e2 : Go 123 0 [.inr (.inl (some 1)), .inl x] [] (mI h I) = some (mI h1 I1, .inr 0) := e
    refine ⟨hOpq h1, I1, ?_, Or.inr rfl, fun _ _ => rfl, fun q => absurd q (by decide)⟩
    rw [b297_0 L10, e2, cal_h (show zhand 297 4 0 = some 8 by decide +kernel)]
    exact b297_8 (h := hOpq h1)
  omega
theorem w124 {s x : Int} (E : EV n h I I) : WRP false 124 [.inr (.inl (some 1)), .inl s, .inl x, vU, vU] eA h I (Go 298 0 [.inr (.inl (some 1)), .inl s, .inl x, .inr (.inl (some 139)), vU] [] (mI h I)) := by
  intro h1 I1 c v e hc k139
  have L10 := ly_10 E.1
  by_cases c0 : c = 0
  · subst c0
    have e2 : Go 124 0 [.inr (.inl (some 1)), .inl s, .inl x, vU, vU] [] (mI h I) = some (mI h1 I1, .inl (some (.inl v))) := e
    refine ⟨h1, zu2 I1 139 0 v, ?_, Or.inl rfl, fun a ha => by rw [zu2_row, rowU_ne ha], fun _ => by rw [zu2_row, rowU_eq, up1_eq]; rfl⟩
    rw [b298_0 L10, e2, cal_r, b298_6 k139 (by decide), b298_18]
  by_cases c1 : c = 1
  · subst c1
    have e2 : Go 124 0 [.inr (.inl (some 1)), .inl s, .inl x, vU, vU] [] (mI h I) = some (mI h1 I1, .inr 0) := e
    refine ⟨hOpq h1, I1, ?_, Or.inr rfl, fun _ _ => rfl, fun q => absurd q (by decide)⟩
    rw [b298_0 L10, e2, cal_h (show zhand 298 5 0 = some 9 by decide +kernel)]
    exact b298_9 (h := hOpq h1)
  by_cases c2 : c = 2
  · subst c2
    have e2 : Go 124 0 [.inr (.inl (some 1)), .inl s, .inl x, vU, vU] [] (mI h I) = some (mI h1 I1, .inr 1) := e
    refine ⟨hOpq h1, I1, ?_, Or.inr rfl, fun _ _ => rfl, fun q => absurd q (by decide)⟩
    rw [b298_0 L10, e2, cal_h (show zhand 298 5 1 = some 12 by decide +kernel)]
    exact b298_12 (h := hOpq h1)
  by_cases c3 : c = 3
  · subst c3
    have e2 : Go 124 0 [.inr (.inl (some 1)), .inl s, .inl x, vU, vU] [] (mI h I) = some (mI h1 I1, .inr 2) := e
    refine ⟨hOpq h1, I1, ?_, Or.inr rfl, fun _ _ => rfl, fun q => absurd q (by decide)⟩
    rw [b298_0 L10, e2, cal_h (show zhand 298 5 2 = some 15 by decide +kernel)]
    exact b298_15 (h := hOpq h1)
  omega
theorem w125 {s : Int} (E : EV n h I I) : WRP false 125 [.inr (.inl (some 1)), .inl s] eA h I (Go 299 0 [.inr (.inl (some 1)), .inl s, .inr (.inl (some 139)), vU] [] (mI h I)) := by
  intro h1 I1 c v e hc k139
  have hm := CBD_c (t125 E) (by decide) eA_i e hc
  have L10 := ly_10 E.1
  by_cases c0 : c = 0
  · subst c0
    have e2 : Go 125 0 [.inr (.inl (some 1)), .inl s] [] (mI h I) = some (mI h1 I1, .inl (some (.inl v))) := e
    refine ⟨h1, zu2 I1 139 0 v, ?_, Or.inl rfl, fun a ha => by rw [zu2_row, rowU_ne ha], fun _ => by rw [zu2_row, rowU_eq, up1_eq]; rfl⟩
    rw [b299_0 L10, e2, cal_r, b299_5 k139 (by decide), b299_11]
  by_cases c1 : c = 1
  · subst c1
    have e2 : Go 125 0 [.inr (.inl (some 1)), .inl s] [] (mI h I) = some (mI h1 I1, .inr 0) := e
    refine ⟨hOpq h1, I1, ?_, Or.inr rfl, fun _ _ => rfl, fun q => absurd q (by decide)⟩
    rw [b299_0 L10, e2, cal_h (show zhand 299 4 0 = some 8 by decide +kernel)]
    exact b299_8 (h := hOpq h1)
  omega
theorem w126 {s x : Int} (E : EV n h I I) : WRP false 126 [.inr (.inl (some 1)), .inl s, .inl x, vU, vU] eA h I (Go 300 0 [.inr (.inl (some 1)), .inl s, .inl x, .inr (.inl (some 139)), vU] [] (mI h I)) := by
  intro h1 I1 c v e hc k139
  have hm := CBD_c (t126 E) (by decide) eA_i e hc
  have L10 := ly_10 E.1
  by_cases c0 : c = 0
  · subst c0
    have e2 : Go 126 0 [.inr (.inl (some 1)), .inl s, .inl x, vU, vU] [] (mI h I) = some (mI h1 I1, .inl (some (.inl v))) := e
    refine ⟨h1, zu2 I1 139 0 v, ?_, Or.inl rfl, fun a ha => by rw [zu2_row, rowU_ne ha], fun _ => by rw [zu2_row, rowU_eq, up1_eq]; rfl⟩
    rw [b300_0 L10, e2, cal_r, b300_6 k139 (by decide), b300_12]
  by_cases c1 : c = 1
  · subst c1
    have e2 : Go 126 0 [.inr (.inl (some 1)), .inl s, .inl x, vU, vU] [] (mI h I) = some (mI h1 I1, .inr 0) := e
    refine ⟨hOpq h1, I1, ?_, Or.inr rfl, fun _ _ => rfl, fun q => absurd q (by decide)⟩
    rw [b300_0 L10, e2, cal_h (show zhand 300 5 0 = some 9 by decide +kernel)]
    exact b300_9 (h := hOpq h1)
  omega
theorem w127 {s x : Int} (E : EV n h I I) : WRP false 127 [.inr (.inl (some 1)), .inl s, .inl x, vU, vU] eA h I (Go 301 0 [.inr (.inl (some 1)), .inl s, .inl x, .inr (.inl (some 139)), vU] [] (mI h I)) := by
  intro h1 I1 c v e hc k139
  have hm := CBD_c (t127 E) (by decide) eA_i e hc
  have L10 := ly_10 E.1
  by_cases c0 : c = 0
  · subst c0
    have e2 : Go 127 0 [.inr (.inl (some 1)), .inl s, .inl x, vU, vU] [] (mI h I) = some (mI h1 I1, .inl (some (.inl v))) := e
    refine ⟨h1, zu2 I1 139 0 v, ?_, Or.inl rfl, fun a ha => by rw [zu2_row, rowU_ne ha], fun _ => by rw [zu2_row, rowU_eq, up1_eq]; rfl⟩
    rw [b301_0 L10, e2, cal_r, b301_6 k139 (by decide), b301_12]
  by_cases c1 : c = 1
  · subst c1
    have e2 : Go 127 0 [.inr (.inl (some 1)), .inl s, .inl x, vU, vU] [] (mI h I) = some (mI h1 I1, .inr 0) := e
    refine ⟨hOpq h1, I1, ?_, Or.inr rfl, fun _ _ => rfl, fun q => absurd q (by decide)⟩
    rw [b301_0 L10, e2, cal_h (show zhand 301 5 0 = some 9 by decide +kernel)]
    exact b301_9 (h := hOpq h1)
  omega
theorem w128 {s win deep : Int} (E : EV n h I I) : WRP false 128 [.inr (.inl (some 1)), .inl s, .inl win, .inl deep, vU, vU, vU] eA h I (Go 302 0 [.inr (.inl (some 1)), .inl s, .inl win, .inl deep, .inr (.inl (some 139)), vU] [] (mI h I)) := by
  intro h1 I1 c v e hc k139
  have L10 := ly_10 E.1
  by_cases c0 : c = 0
  · subst c0
    have e2 : Go 128 0 [.inr (.inl (some 1)), .inl s, .inl win, .inl deep, vU, vU, vU] [] (mI h I) = some (mI h1 I1, .inl (some (.inl v))) := e
    refine ⟨h1, zu2 I1 139 0 v, ?_, Or.inl rfl, fun a ha => by rw [zu2_row, rowU_ne ha], fun _ => by rw [zu2_row, rowU_eq, up1_eq]; rfl⟩
    rw [b302_0 L10, e2, cal_r, b302_7 k139 (by decide), b302_19]
  by_cases c1 : c = 1
  · subst c1
    have e2 : Go 128 0 [.inr (.inl (some 1)), .inl s, .inl win, .inl deep, vU, vU, vU] [] (mI h I) = some (mI h1 I1, .inr 0) := e
    refine ⟨hOpq h1, I1, ?_, Or.inr rfl, fun _ _ => rfl, fun q => absurd q (by decide)⟩
    rw [b302_0 L10, e2, cal_h (show zhand 302 7 0 = some 10 by decide +kernel)]
    exact b302_10 (h := hOpq h1)
  by_cases c2 : c = 2
  · subst c2
    have e2 : Go 128 0 [.inr (.inl (some 1)), .inl s, .inl win, .inl deep, vU, vU, vU] [] (mI h I) = some (mI h1 I1, .inr 1) := e
    refine ⟨hOpq h1, I1, ?_, Or.inr rfl, fun _ _ => rfl, fun q => absurd q (by decide)⟩
    rw [b302_0 L10, e2, cal_h (show zhand 302 7 1 = some 13 by decide +kernel)]
    exact b302_13 (h := hOpq h1)
  by_cases c3 : c = 3
  · subst c3
    have e2 : Go 128 0 [.inr (.inl (some 1)), .inl s, .inl win, .inl deep, vU, vU, vU] [] (mI h I) = some (mI h1 I1, .inr 2) := e
    refine ⟨hOpq h1, I1, ?_, Or.inr rfl, fun _ _ => rfl, fun q => absurd q (by decide)⟩
    rw [b302_0 L10, e2, cal_h (show zhand 302 7 2 = some 16 by decide +kernel)]
    exact b302_16 (h := hOpq h1)
  omega
theorem w129 {s : Int} (E : EV n h I I) : WRP false 129 [.inr (.inl (some 1)), .inl s] eA h I (Go 303 0 [.inr (.inl (some 1)), .inl s, .inr (.inl (some 139)), vU] [] (mI h I)) := by
  intro h1 I1 c v e hc k139
  have hm := CBD_c (t129 E) (by decide) eA_i e hc
  have L10 := ly_10 E.1
  by_cases c0 : c = 0
  · subst c0
    have e2 : Go 129 0 [.inr (.inl (some 1)), .inl s] [] (mI h I) = some (mI h1 I1, .inl (some (.inl v))) := e
    refine ⟨h1, zu2 I1 139 0 v, ?_, Or.inl rfl, fun a ha => by rw [zu2_row, rowU_ne ha], fun _ => by rw [zu2_row, rowU_eq, up1_eq]; rfl⟩
    rw [b303_0 L10, e2, cal_r, b303_5 k139 (by decide), b303_11]
  by_cases c1 : c = 1
  · subst c1
    have e2 : Go 129 0 [.inr (.inl (some 1)), .inl s] [] (mI h I) = some (mI h1 I1, .inr 0) := e
    refine ⟨hOpq h1, I1, ?_, Or.inr rfl, fun _ _ => rfl, fun q => absurd q (by decide)⟩
    rw [b303_0 L10, e2, cal_h (show zhand 303 4 0 = some 8 by decide +kernel)]
    exact b303_8 (h := hOpq h1)
  omega
theorem w130 {s x : Int} (E : EV n h I I) : WRP false 130 [.inr (.inl (some 1)), .inl s, .inl x] eA h I (Go 304 0 [.inr (.inl (some 1)), .inl s, .inl x, .inr (.inl (some 139)), vU] [] (mI h I)) := by
  intro h1 I1 c v e hc k139
  have hm := CBD_c (t130 E) (by decide) eA_i e hc
  have L10 := ly_10 E.1
  by_cases c0 : c = 0
  · subst c0
    have e2 : Go 130 0 [.inr (.inl (some 1)), .inl s, .inl x] [] (mI h I) = some (mI h1 I1, .inl (some (.inl v))) := e
    refine ⟨h1, zu2 I1 139 0 v, ?_, Or.inl rfl, fun a ha => by rw [zu2_row, rowU_ne ha], fun _ => by rw [zu2_row, rowU_eq, up1_eq]; rfl⟩
    rw [b304_0 L10, e2, cal_r, b304_6 k139 (by decide), b304_12]
  by_cases c1 : c = 1
  · subst c1
    have e2 : Go 130 0 [.inr (.inl (some 1)), .inl s, .inl x] [] (mI h I) = some (mI h1 I1, .inr 0) := e
    refine ⟨hOpq h1, I1, ?_, Or.inr rfl, fun _ _ => rfl, fun q => absurd q (by decide)⟩
    rw [b304_0 L10, e2, cal_h (show zhand 304 5 0 = some 9 by decide +kernel)]
    exact b304_9 (h := hOpq h1)
  omega
theorem w131 {s x : Int} (E : EV n h I I) : WRP false 131 [.inr (.inl (some 1)), .inl s, .inl x] eA h I (Go 305 0 [.inr (.inl (some 1)), .inl s, .inl x, .inr (.inl (some 139)), vU] [] (mI h I)) := by
  intro h1 I1 c v e hc k139
  have hm := CBD_c (t131 E) (by decide) eA_i e hc
  have L10 := ly_10 E.1
  by_cases c0 : c = 0
  · subst c0
    have e2 : Go 131 0 [.inr (.inl (some 1)), .inl s, .inl x] [] (mI h I) = some (mI h1 I1, .inl (some (.inl v))) := e
    refine ⟨h1, zu2 I1 139 0 v, ?_, Or.inl rfl, fun a ha => by rw [zu2_row, rowU_ne ha], fun _ => by rw [zu2_row, rowU_eq, up1_eq]; rfl⟩
    rw [b305_0 L10, e2, cal_r, b305_6 k139 (by decide), b305_12]
  by_cases c1 : c = 1
  · subst c1
    have e2 : Go 131 0 [.inr (.inl (some 1)), .inl s, .inl x] [] (mI h I) = some (mI h1 I1, .inr 0) := e
    refine ⟨hOpq h1, I1, ?_, Or.inr rfl, fun _ _ => rfl, fun q => absurd q (by decide)⟩
    rw [b305_0 L10, e2, cal_h (show zhand 305 5 0 = some 9 by decide +kernel)]
    exact b305_9 (h := hOpq h1)
  omega
theorem w132 {s x k : Int} (E : EV n h I I) : WRP false 132 [.inr (.inl (some 1)), .inl s, .inl x, .inl k, vU] eA h I (Go 306 0 [.inr (.inl (some 1)), .inl s, .inl x, .inl k, .inr (.inl (some 139)), vU] [] (mI h I)) := by
  intro h1 I1 c v e hc k139
  have hm := CBD_c (t132 E) (by decide) eA_i e hc
  have L10 := ly_10 E.1
  by_cases c0 : c = 0
  · subst c0
    have e2 : Go 132 0 [.inr (.inl (some 1)), .inl s, .inl x, .inl k, vU] [] (mI h I) = some (mI h1 I1, .inl (some (.inl v))) := e
    refine ⟨h1, zu2 I1 139 0 v, ?_, Or.inl rfl, fun a ha => by rw [zu2_row, rowU_ne ha], fun _ => by rw [zu2_row, rowU_eq, up1_eq]; rfl⟩
    rw [b306_0 L10, e2, cal_r, b306_7 k139 (by decide), b306_13]
  by_cases c1 : c = 1
  · subst c1
    have e2 : Go 132 0 [.inr (.inl (some 1)), .inl s, .inl x, .inl k, vU] [] (mI h I) = some (mI h1 I1, .inr 0) := e
    refine ⟨hOpq h1, I1, ?_, Or.inr rfl, fun _ _ => rfl, fun q => absurd q (by decide)⟩
    rw [b306_0 L10, e2, cal_h (show zhand 306 7 0 = some 10 by decide +kernel)]
    exact b306_10 (h := hOpq h1)
  omega
theorem w133 {s x : Int} (E : EV n h I I) : WRP true 133 [.inr (.inl (some 1)), .inl s, .inl x, vU, vU] eA h I (Go 307 0 [.inr (.inl (some 1)), .inl s, .inl x, .inr (.inl (some 139)), vU] [] (mI h I)) := by
  intro h1 I1 c v e hc k139
  have hm := CBD_c (t133 E) (by decide) eA_i e hc
  have L10 := ly_10 E.1
  by_cases c0 : c = 0
  · subst c0
    have e2 : Go 133 0 [.inr (.inl (some 1)), .inl s, .inl x, vU, vU] [] (mI h I) = some (mI h1 I1, .inl (some (.inl v))) := e
    by_cases v0 : v = 0
    · refine ⟨h1, zu2 I1 139 0 0, ?_, Or.inl rfl, fun a ha => by rw [zu2_row, rowU_ne ha], fun _ => by rw [zu2_row, rowU_eq, up1_eq]; unfold wv; rw [if_pos rfl, if_pos v0]⟩
      rw [b307_0 L10, e2, cal_r, b307_6, if_pos v0, b307_9, b307_10 k139 (by decide), b307_15]
    · refine ⟨h1, zu2 I1 139 0 1, ?_, Or.inl rfl, fun a ha => by rw [zu2_row, rowU_ne ha], fun _ => by rw [zu2_row, rowU_eq, up1_eq]; unfold wv; rw [if_pos rfl, if_neg v0]⟩
      rw [b307_0 L10, e2, cal_r, b307_6, if_neg v0, b307_7, b307_10 k139 (by decide), b307_15]
  by_cases c1 : c = 1
  · subst c1
    have e2 : Go 133 0 [.inr (.inl (some 1)), .inl s, .inl x, vU, vU] [] (mI h I) = some (mI h1 I1, .inr 0) := e
    refine ⟨hOpq h1, I1, ?_, Or.inr rfl, fun _ _ => rfl, fun q => absurd q (by decide)⟩
    rw [b307_0 L10, e2, cal_h (show zhand 307 5 0 = some 12 by decide +kernel)]
    exact b307_12 (h := hOpq h1)
  omega
theorem w134 {s : Int} (E : EV n h I I) (hn : n ≤ 512) : WRP false 134 [.inr (.inl (some 1)), .inl s, vU] eA h I (Go 308 0 [.inr (.inl (some 1)), .inl s, .inr (.inl (some 139)), vU] [] (mI h I)) := by
  intro h1 I1 c v e hc k139
  have hm := CBD_c (t134 E hn) (by decide) eA_i e hc
  have L10 := ly_10 E.1
  by_cases c0 : c = 0
  · subst c0
    have e2 : Go 134 0 [.inr (.inl (some 1)), .inl s, vU] [] (mI h I) = some (mI h1 I1, .inl (some (.inl v))) := e
    refine ⟨h1, zu2 I1 139 0 v, ?_, Or.inl rfl, fun a ha => by rw [zu2_row, rowU_ne ha], fun _ => by rw [zu2_row, rowU_eq, up1_eq]; rfl⟩
    rw [b308_0 L10, e2, cal_r, b308_5 k139 (by decide), b308_11]
  by_cases c1 : c = 1
  · subst c1
    have e2 : Go 134 0 [.inr (.inl (some 1)), .inl s, vU] [] (mI h I) = some (mI h1 I1, .inr 0) := e
    refine ⟨hOpq h1, I1, ?_, Or.inr rfl, fun _ _ => rfl, fun q => absurd q (by decide)⟩
    rw [b308_0 L10, e2, cal_h (show zhand 308 4 0 = some 8 by decide +kernel)]
    exact b308_8 (h := hOpq h1)
  omega
theorem w136 {u r l hf : Int} (E : EV n h I I) (hn : n < 512) (hh : hf = 0 ∨ hf = 1) : WRP false 136 [.inr (.inl (some 1)), .inl u, .inl r, .inl l, .inl hf, vU] eA h I (Go 309 0 [.inr (.inl (some 1)), .inl u, .inl r, .inl l, .inl hf, .inr (.inl (some 139)), vU] [] (mI h I)) := by
  intro h1 I1 c v e hc k139
  have L10 := ly_10 E.1
  by_cases c0 : c = 0
  · subst c0
    have e2 : Go 136 0 [.inr (.inl (some 1)), .inl u, .inl r, .inl l, .inl hf, vU] [] (mI h I) = some (mI h1 I1, .inl (some (.inl v))) := e
    refine ⟨h1, zu2 I1 139 0 v, ?_, Or.inl rfl, fun a ha => by rw [zu2_row, rowU_ne ha], fun _ => by rw [zu2_row, rowU_eq, up1_eq]; rfl⟩
    rw [b309_0 L10, e2, cal_r, b309_8 k139 (by decide), b309_20]
  by_cases c1 : c = 1
  · subst c1
    have e2 : Go 136 0 [.inr (.inl (some 1)), .inl u, .inl r, .inl l, .inl hf, vU] [] (mI h I) = some (mI h1 I1, .inr 0) := e
    refine ⟨hOpq h1, I1, ?_, Or.inr rfl, fun _ _ => rfl, fun q => absurd q (by decide)⟩
    rw [b309_0 L10, e2, cal_h (show zhand 309 9 0 = some 11 by decide +kernel)]
    exact b309_11 (h := hOpq h1)
  by_cases c2 : c = 2
  · subst c2
    have e2 : Go 136 0 [.inr (.inl (some 1)), .inl u, .inl r, .inl l, .inl hf, vU] [] (mI h I) = some (mI h1 I1, .inr 1) := e
    refine ⟨hOpq h1, I1, ?_, Or.inr rfl, fun _ _ => rfl, fun q => absurd q (by decide)⟩
    rw [b309_0 L10, e2, cal_h (show zhand 309 9 1 = some 14 by decide +kernel)]
    exact b309_14 (h := hOpq h1)
  by_cases c3 : c = 3
  · subst c3
    have e2 : Go 136 0 [.inr (.inl (some 1)), .inl u, .inl r, .inl l, .inl hf, vU] [] (mI h I) = some (mI h1 I1, .inr 2) := e
    refine ⟨hOpq h1, I1, ?_, Or.inr rfl, fun _ _ => rfl, fun q => absurd q (by decide)⟩
    rw [b309_0 L10, e2, cal_h (show zhand 309 9 2 = some 17 by decide +kernel)]
    exact b309_17 (h := hOpq h1)
  omega
theorem w137 {u r : Int} (E : EV n h I I) (hn : n < 512) : WRP false 137 [.inr (.inl (some 1)), .inl u, .inl r, vU, vU] eC h I (Go 310 0 [.inr (.inl (some 1)), .inl u, .inl r, .inr (.inl (some 139)), vU] [] (mI h I)) := by
  intro h1 I1 c v e hc k139
  have hm := CBD_c (t137 E hn) (by decide) eC_i e hc
  have L10 := ly_10 E.1
  by_cases c0 : c = 0
  · subst c0
    have e2 : Go 137 0 [.inr (.inl (some 1)), .inl u, .inl r, vU, vU] [] (mI h I) = some (mI h1 I1, .inl (some (.inl v))) := e
    refine ⟨h1, zu2 I1 139 0 v, ?_, Or.inl rfl, fun a ha => by rw [zu2_row, rowU_ne ha], fun _ => by rw [zu2_row, rowU_eq, up1_eq]; rfl⟩
    rw [b310_0 L10, e2, cal_r, b310_6 k139 (by decide), b310_15]
  by_cases c1 : c = 1
  · subst c1
    have e2 : Go 137 0 [.inr (.inl (some 1)), .inl u, .inl r, vU, vU] [] (mI h I) = some (mI h1 I1, .inr 0) := e
    refine ⟨hOpq h1, I1, ?_, Or.inr rfl, fun _ _ => rfl, fun q => absurd q (by decide)⟩
    rw [b310_0 L10, e2, cal_h (show zhand 310 5 0 = some 9 by decide +kernel)]
    exact b310_9 (h := hOpq h1)
  by_cases c2 : c = 2
  · subst c2
    have e2 : Go 137 0 [.inr (.inl (some 1)), .inl u, .inl r, vU, vU] [] (mI h I) = some (mI h1 I1, .inr 2) := e
    refine ⟨hOpq h1, I1, ?_, Or.inr rfl, fun _ _ => rfl, fun q => absurd q (by decide)⟩
    rw [b310_0 L10, e2, cal_h (show zhand 310 5 2 = some 12 by decide +kernel)]
    exact b310_12 (h := hOpq h1)
  omega
theorem w138 {s x : Int} (E : EV n h I I) : WRP false 138 [.inr (.inl (some 1)), .inl s, .inl x, vU, vU, vU] eC h I (Go 311 0 [.inr (.inl (some 1)), .inl s, .inl x, .inr (.inl (some 139)), vU] [] (mI h I)) := by
  intro h1 I1 c v e hc k139
  have hm := CBD_c (t138 E) (by decide) eC_i e hc
  have L10 := ly_10 E.1
  by_cases c0 : c = 0
  · subst c0
    have e2 : Go 138 0 [.inr (.inl (some 1)), .inl s, .inl x, vU, vU, vU] [] (mI h I) = some (mI h1 I1, .inl (some (.inl v))) := e
    refine ⟨h1, zu2 I1 139 0 v, ?_, Or.inl rfl, fun a ha => by rw [zu2_row, rowU_ne ha], fun _ => by rw [zu2_row, rowU_eq, up1_eq]; rfl⟩
    rw [b311_0 L10, e2, cal_r, b311_6 k139 (by decide), b311_15]
  by_cases c1 : c = 1
  · subst c1
    have e2 : Go 138 0 [.inr (.inl (some 1)), .inl s, .inl x, vU, vU, vU] [] (mI h I) = some (mI h1 I1, .inr 0) := e
    refine ⟨hOpq h1, I1, ?_, Or.inr rfl, fun _ _ => rfl, fun q => absurd q (by decide)⟩
    rw [b311_0 L10, e2, cal_h (show zhand 311 5 0 = some 9 by decide +kernel)]
    exact b311_9 (h := hOpq h1)
  by_cases c2 : c = 2
  · subst c2
    have e2 : Go 138 0 [.inr (.inl (some 1)), .inl s, .inl x, vU, vU, vU] [] (mI h I) = some (mI h1 I1, .inr 2) := e
    refine ⟨hOpq h1, I1, ?_, Or.inr rfl, fun _ _ => rfl, fun q => absurd q (by decide)⟩
    rw [b311_0 L10, e2, cal_h (show zhand 311 5 2 = some 12 by decide +kernel)]
    exact b311_12 (h := hOpq h1)
  omega
theorem w139 {s : Int} (E : EV n h I I) : WRP false 139 [.inr (.inl (some 1)), .inl s, vU] eA h I (Go 312 0 [.inr (.inl (some 1)), .inl s, .inr (.inl (some 139)), vU] [] (mI h I)) := by
  intro h1 I1 c v e hc k139
  have hm := CBD_c (t139 E) (by decide) eA_i e hc
  have L10 := ly_10 E.1
  by_cases c0 : c = 0
  · subst c0
    have e2 : Go 139 0 [.inr (.inl (some 1)), .inl s, vU] [] (mI h I) = some (mI h1 I1, .inl (some (.inl v))) := e
    refine ⟨h1, zu2 I1 139 0 v, ?_, Or.inl rfl, fun a ha => by rw [zu2_row, rowU_ne ha], fun _ => by rw [zu2_row, rowU_eq, up1_eq]; rfl⟩
    rw [b312_0 L10, e2, cal_r, b312_5 k139 (by decide), b312_11]
  by_cases c1 : c = 1
  · subst c1
    have e2 : Go 139 0 [.inr (.inl (some 1)), .inl s, vU] [] (mI h I) = some (mI h1 I1, .inr 0) := e
    refine ⟨hOpq h1, I1, ?_, Or.inr rfl, fun _ _ => rfl, fun q => absurd q (by decide)⟩
    rw [b312_0 L10, e2, cal_h (show zhand 312 4 0 = some 8 by decide +kernel)]
    exact b312_8 (h := hOpq h1)
  omega
theorem w140 {s p : Int} (E : EV n h I I) : WRP false 140 [.inr (.inl (some 1)), .inl s, .inl p, vU, vU, vU, vU] eA h I (Go 313 0 [.inr (.inl (some 1)), .inl s, .inl p, .inr (.inl (some 139)), vU] [] (mI h I)) := by
  intro h1 I1 c v e hc k139
  have hm := CBD_c (t140 E) (by decide) eA_i e hc
  have L10 := ly_10 E.1
  by_cases c0 : c = 0
  · subst c0
    have e2 : Go 140 0 [.inr (.inl (some 1)), .inl s, .inl p, vU, vU, vU, vU] [] (mI h I) = some (mI h1 I1, .inl (some (.inl v))) := e
    refine ⟨h1, zu2 I1 139 0 v, ?_, Or.inl rfl, fun a ha => by rw [zu2_row, rowU_ne ha], fun _ => by rw [zu2_row, rowU_eq, up1_eq]; rfl⟩
    rw [b313_0 L10, e2, cal_r, b313_6 k139 (by decide), b313_12]
  by_cases c1 : c = 1
  · subst c1
    have e2 : Go 140 0 [.inr (.inl (some 1)), .inl s, .inl p, vU, vU, vU, vU] [] (mI h I) = some (mI h1 I1, .inr 0) := e
    refine ⟨hOpq h1, I1, ?_, Or.inr rfl, fun _ _ => rfl, fun q => absurd q (by decide)⟩
    rw [b313_0 L10, e2, cal_h (show zhand 313 5 0 = some 9 by decide +kernel)]
    exact b313_9 (h := hOpq h1)
  omega
theorem w141 {s : Int} (E : EV n h I I) : WRP false 141 [.inr (.inl (some 1)), .inl s, vU, vU, vU, vU, vU] eC h I (Go 314 0 [.inr (.inl (some 1)), .inl s, .inr (.inl (some 139)), vU] [] (mI h I)) := by
  intro h1 I1 c v e hc k139
  have hm := CBD_c (t141 E) (by decide) eC_i e hc
  have L10 := ly_10 E.1
  by_cases c0 : c = 0
  · subst c0
    have e2 : Go 141 0 [.inr (.inl (some 1)), .inl s, vU, vU, vU, vU, vU] [] (mI h I) = some (mI h1 I1, .inl (some (.inl v))) := e
    refine ⟨h1, zu2 I1 139 0 v, ?_, Or.inl rfl, fun a ha => by rw [zu2_row, rowU_ne ha], fun _ => by rw [zu2_row, rowU_eq, up1_eq]; rfl⟩
    rw [b314_0 L10, e2, cal_r, b314_5 k139 (by decide), b314_14]
  by_cases c1 : c = 1
  · subst c1
    have e2 : Go 141 0 [.inr (.inl (some 1)), .inl s, vU, vU, vU, vU, vU] [] (mI h I) = some (mI h1 I1, .inr 0) := e
    refine ⟨hOpq h1, I1, ?_, Or.inr rfl, fun _ _ => rfl, fun q => absurd q (by decide)⟩
    rw [b314_0 L10, e2, cal_h (show zhand 314 4 0 = some 8 by decide +kernel)]
    exact b314_8 (h := hOpq h1)
  by_cases c2 : c = 2
  · subst c2
    have e2 : Go 141 0 [.inr (.inl (some 1)), .inl s, vU, vU, vU, vU, vU] [] (mI h I) = some (mI h1 I1, .inr 2) := e
    refine ⟨hOpq h1, I1, ?_, Or.inr rfl, fun _ _ => rfl, fun q => absurd q (by decide)⟩
    rw [b314_0 L10, e2, cal_h (show zhand 314 4 2 = some 11 by decide +kernel)]
    exact b314_11 (h := hOpq h1)
  omega
end OPS23
