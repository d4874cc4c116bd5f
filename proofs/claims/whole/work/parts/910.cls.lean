/-! ===== the class (40): the courier: what is wanted ===== -/
def StJ (J : Nat → Int → Int) (s z : Int) (f : Int → Int) : Prop := f z = 0 ∧ ∀ k, 0 ≤ k → k < J 94 0 → 0 ≤ f k ∧ (f k = 100 ∨ (f k + k ≤ z ∧ Vs J k ∧ Rh J s z (f k).toNat k))
theorem Ep_v {J : Nat → Int → Int} (W : WB J) (V : WV J) {s a b : Int} (ha : Vs J a) (e : Ep J s a b) : Vs J b ∧ b < a := by
  obtain ⟨j, j2, j3, e⟩ := e.2
  rw [e]
  exact Vs_p W V ha j2 j3
theorem vr_tp {J : Nat → Int → Int} (W : WB J) {x : Int} (hx : 0 < x ∧ x ≤ J 94 0) : vrO J (x - 1) = tp J x := by
  have hr : 0 ≤ x - 1 ∧ x - 1 < J 94 0 := by omega
  unfold vrO tp
  rw [kdO_t hr, if_neg (show ¬x = 0 by omega)]
  by_cases c : J 95 (x - 1) = 3
  · have en : nL J (x - 1) = 1 := by
      unfold nL
      rw [if_neg (by omega), if_neg (by omega), if_pos c]
    have lp : lkP J (x - 1) 0 = 0 := by
      unfold lkP
      rw [if_neg (by omega), if_neg (by omega)]
    rw [if_pos c, if_pos c]
    unfold lkO lkR
    rw [if_pos ⟨hr, by decide, by rw [en]; decide⟩, lp]
  · rw [if_neg c, if_neg c]
theorem Wf_r {J : Nat → Int → Int} (W : WB J) (V : WV J) {s z l : Int} (hz : Vs J z) : ∀ j, Wf J s z l (J 94 0) j → (0 ≤ j ∧ j < J 94 0) ∧ J 95 j = 1 := by
  rintro j ⟨i, hi, ⟨n, r, _⟩, e⟩
  have v := Rh_v W V hz n i r
  have w := W.2 i hi.1 hi.2
  have h2 := v.2
  have l0 : Lk J i 0 := ⟨Int.le_refl _, by omega, Or.inr (Or.inl ⟨h2, by decide⟩)⟩
  have := w.2 0 l0
  rw [e]
  exact ⟨⟨this.1, by omega⟩, (V.1 i hi.1 hi.2 0 l0).2.1 h2 rfl⟩
theorem Wn_r {J : Nat → Int → Int} (W : WB J) (V : WV J) {s x l : Int} (hx : 0 < x ∧ x ≤ J 94 0) (hz : Vs J (tp J x)) : ∀ j, Wn J s x l j → 0 ≤ j ∧ j < J 94 0 := by
  rintro j ((⟨n, r, _⟩ | q) | q)
  · exact (Rh_v W V hz n j r).1
  · exact Cl_lt W (fun j q => (Wf_r W V hz j q).1) j q
  · omega
theorem k25 {h : HP} {I J : Nat → Int → Int} {n : Nat} {s x l : Int} {P : Int → Prop} {v4 v5 v6 : MV} (L0 : LX 0 h 2) (L2 : LX 2 h 83) (L7 : LX 7 h 86) (L4 : LX 4 h n) (hn : n + 4 < 83) (B : BC I J) (R : RB J) (V : WV J) (Sh : WSh J) (hC : ShC I J n s) (hs : s = 0 ∨ s = 1) (hx : 0 < x ∧ x ≤ J 94 0) (h2 : 2 ≤ J 95 (x - 1)) (hl : 0 ≤ l ∧ l ≤ 20) (hP : S1 P) (h87 : I 87 = ind P) :
    ∃ I1, Go 25 0 [.inr (.inl (some 83)), .inr (.inl (some n)), .inl (x - 1), .inl l, v4, v5, v6] [] (mI h I) = some (mI h I1, .inl none) ∧ I1 87 = ind (Wn J s x l) ∧ ∀ c, c ≠ 85 → c ≠ 87 → I1 c = I c := by
  have hT := R.1.1
  obtain ⟨T, hTT⟩ : ∃ T, T = J 94 0 := ⟨_, rfl⟩
  obtain ⟨z, hzz⟩ : ∃ z, z = tp J x := ⟨_, rfl⟩
  have hz : Vs J z := by rw [hzz]; exact tp_v R.1 V hx h2
  have hz1 := hz.1
  obtain ⟨m, hm⟩ : ∃ m : Int, m = if l = 0 then 100 else l := ⟨_, rfl⟩
  have hm2 : (l = 0 ∧ m = 100) ∨ (l ≠ 0 ∧ m = l) := by
    by_cases c : l = 0
    · rw [if_pos c] at hm; exact Or.inl ⟨c, hm⟩
    · rw [if_neg c] at hm; exact Or.inr ⟨c, hm⟩
  have BU : ∀ f q, BC (rowU (rowU I 85 f) 87 q) J := fun f q => by rw [BC_U (by decide), BC_U (by decide)]; exact B
  have e27 : ∀ f q, rowU (rowU I 85 f) 87 q 2 7 = T := fun f q => by rw [(BU f q).1, hTT]
  have m72 : ∀ (K : Nat → Int → Int) (Q : Int → Prop) (y : Int), 0 ≤ y ∧ y < T → Go 72 0 [.inr (.inl (some 86)), .inl y] [] (mI h (rowU K 87 (ind Q))) = some (mI h (rowU K 87 (ind (fun j => Q j ∨ j = y))), .inl none) := fun K Q y hy => by
    refine (k72 (a := 86) (I := K) (P := Q) (x := y) L7).trans ?_
    rw [ind_c (P := fun j => Q j ∨ ((0 ≤ j ∧ j < 100) ∧ j = y)) (Q := fun j => Q j ∨ j = y) (fun j => ⟨fun q => q.imp id And.right, fun q => q.imp id (fun r => ⟨by omega, r⟩)⟩)]
  have lk0 : ∀ a, Vs J a → lkO J a 0 = atR J a 0 := fun a ha => by
    have w := (R.1.2 _ ha.1.1 ha.1.2).1
    have k2 := ha.2
    have en : nL J a = J 96 a - 1 := by
      unfold nL
      rw [if_neg (by omega), if_pos k2]
    unfold lkO lkR lkP
    rw [if_pos ⟨ha.1, by omega, by omega⟩, if_neg (by omega), if_pos k2, if_pos rfl]
  have lkr : ∀ a, Vs J a → Lk J a 0 := fun a ha => by
    have w := (R.1.2 _ ha.1.1 ha.1.2).1
    have k2 := ha.2
    exact ⟨Int.le_refl _, by omega, Or.inr (Or.inl ⟨k2, by decide⟩)⟩
  -- start
  have l85 : hK h 85 = (0, 100) := LX_k L2 4 false 2 0 100 rfl
  have start : Go 25 0 [.inr (.inl (some 83)), .inr (.inl (some n)), .inl (x - 1), .inl l, v4, v5, v6] [] (mI h I) = Go 25 38 [.inr (.inl (some 83)), .inr (.inl (some n)), .inl (x - 1), .inl l, .inl z, .inl m, .inl (T - 1)] [] (mI h (rowU (rowU I 85 (up1 (fillR (I 85) 0 100 (fun _ => 100)) z 0)) 87 (ind (fun j => j = x - 1)))) := by
    have e1 : mI h I = mI h (rowU I 87 (ind P)) := by rw [← h87, rowU_id]
    have e2 : Go 71 0 [.inr (.inl (some 86)), vU] [] (mI h (rowU I 87 (ind P))) = some (mI h (rowU I 87 (ind (fun _ => False))), .inl none) := k71 (a := 86) L7 hP
    have e3 : ind (fun j => False ∨ j = x - 1) = ind (fun j => j = x - 1) := ind_eq
    have e4 : ∀ f q, BC (rowU (rowU I 87 q) 85 f) J := fun f q => by rw [BC_U (by decide), BC_U (by decide)]; exact B
    have e5 : Go 25 15 [.inr (.inl (some 83)), .inr (.inl (some n)), .inl (x - 1), .inl l, v4, v5, v6] [.inl z] (mI h (rowU (rowU I 87 (ind (fun j => j = x - 1))) 85 (fillR (I 85) 0 100 (fun _ => 100)))) = Go 25 31 [.inr (.inl (some 83)), .inr (.inl (some n)), .inl (x - 1), .inl l, .inl z, v5, v6] [.inl m] (mI h (rowU (rowU I 87 (ind (fun j => j = x - 1))) 85 (up1 (fillR (I 85) 0 100 (fun _ => 100)) z 0))) := by
      rw [b25_15, if_neg (by omega), b25_18, if_neg (by omega), b25_21 L2 (by omega), zu2_row, rowU_tw, rowU_eq, b25_26]
      obtain ⟨c, hc⟩ | ⟨c, hc⟩ := hm2
      · rw [if_neg (fun t => t c), b25_28, hc]
      · rw [if_pos c, b25_30, hc]
    rw [e1, b25_0 L2 L7, e2, caln_v, b25_3 L2 L7, m72 I _ (x - 1) (by omega), caln_v, e3, b25_7 L2, k274 l85 (by decide), caln_v, b25_11 L2 L0, rowU_ne (by decide), k10 L0 (e4 _ _) R, caln_r, vr_tp R.1 hx, ← hzz, e5, b25_31 L2 L0 (by rw [(e4 _ _).1]; omega), (e4 _ _).1, ← hTT, rowU_cm (by decide)]
  have key := lpE (fun k (y : (Int → Int) × (Int → Prop)) => Go 25 38 [.inr (.inl (some 83)), .inr (.inl (some n)), .inl (x - 1), .inl l, .inl z, .inl m, .inl (T - 1 - k)] [] (mI h (rowU (rowU I 85 y.1) 87 (ind y.2))))
    (fun k y => StJ J s z y.1 ∧ (∀ a, T - 1 - k < a → Vs J a → y.1 a < m → (∀ b, Ep J s a b → y.1 b ≤ y.1 a + 1) ∧ y.2 a ∧ y.2 (atR J a 0)) ∧ (∀ j, y.2 j → Wn J s x l j) ∧ y.2 (x - 1) ∧ ∀ a, T - 1 - k < a → J 95 a = 1 → y.2 a → ∀ b, Eg J s a b → y.2 b) 0 T (by omega) ?_
    (up1 (fillR (I 85) 0 100 (fun _ => 100)) z 0, fun j => j = x - 1) ⟨⟨up1_eq, fun k k0 k1 => ?_⟩, fun a ha va _ => by have := va.1; omega, fun j q => Or.inr q, rfl, fun a ha k1 q => by
      dsimp only at q
      rw [← q] at h2
      omega⟩
  · obtain ⟨⟨f, Q⟩, e, q1, q2, q3, q4, q5⟩ := key
    dsimp only at e q1 q2 q3 q4 q5
    refine ⟨rowU (rowU I 85 f) 87 (ind Q), ?_, ?_, fun c c0 c1 => by rw [rowU_ne c1, rowU_ne c0]⟩
    · rw [start, show T - 1 = T - 1 - 0 by omega, e, b25_38, if_pos (by omega), b25_88]
    · rw [rowU_eq]
      have low : ∀ (k : Nat) (b : Int), Rh J s z k b → (l = 0 ∨ (k : Int) < l) → f b < m ∧ f b ≤ k := by
        intro k
        induction k with
        | zero =>
          intro b r hk
          rw [show b = z from r, q1.1]
          exact ⟨by omega, Int.le_refl _⟩
        | succ k ih =>
          intro b r hk
          obtain r | ⟨a, r, e⟩ := r
          · have := ih b r (by omega)
            omega
          · have i := ih a r (by omega)
            have va := Rh_v R.1 V hz k a r
            have va1 := va.1
            have eb := (q2 a (by omega) va i.1).1 b e
            have vb := Ep_v R.1 V va e
            have vb1 := vb.1.1
            have fa := (q1.2 a va1.1 va1.2).2
            omega
      refine ind_c (fun j => ⟨q3 j, ?_⟩)
      rintro ((⟨k, r, hk⟩ | q) | q)
      · rw [← hzz] at r
        have vj := Rh_v R.1 V hz k j r
        have vj1 := vj.1
        exact (q2 j (by omega) vj (low k j r hk).1).2.1
      · rw [← hzz] at q
        refine (Cl_ind (P := fun b => Q b ∧ J 95 b < 2) q (fun a ha => ?_) (fun a b ha eb => ?_)).1
        · have wr := Wf_r R.1 V hz a ha
          have wr2 := wr.2
          obtain ⟨i, hi, ⟨k, r, hk⟩, e⟩ := ha
          have vi := Rh_v R.1 V hz k i r
          have := (q2 i (by omega) vi (low k i r hk).1).2.2
          rw [e]
          rw [e] at wr2
          exact ⟨this, by omega⟩
        · have ra := Wn_r R.1 V (l := l) (s := s) hx (by rw [← hzz]; exact hz) a (q3 a ha.1)
          have eb2 := eb
          obtain ⟨j, lj, _, e⟩ := eb
          have k1 : J 95 a = 1 := by
            obtain r | r | r := lj.2.2
            · exact r.1
            · have := ha.2; omega
            · have := ha.2; omega
          refine ⟨q5 a (by omega) k1 ha.1 b eb2, ?_⟩
          rw [e]
          exact (V.1 a ra.1 ra.2 j lj).1 k1
      · rw [q]
        exact q4
  · rintro k ⟨f, Q⟩ k0 k1 ⟨q1, q2, q3, q4, q5⟩
    dsimp only at q1 q2 q3 q4 q5 ⊢
    obtain ⟨y, hy⟩ : ∃ y, y = T - 1 - k := ⟨_, rfl⟩
    have y0 : 0 ≤ y ∧ y < J 94 0 := by omega
    have e86 : ∀ (g : Int → Int) (S : Int → Prop), Go 25 86 [.inr (.inl (some 83)), .inr (.inl (some n)), .inl (x - 1), .inl l, .inl z, .inl m, .inl y] [] (mI h (rowU (rowU I 85 g) 87 (ind S))) = Go 25 38 [.inr (.inl (some 83)), .inr (.inl (some n)), .inl (x - 1), .inl l, .inl z, .inl m, .inl (T - 1 - (k + 1))] [] (mI h (rowU (rowU I 85 g) 87 (ind S))) := fun g S => by
      rw [b25_86 (by omega), show y + -1 = T - 1 - (k + 1) by omega]
    have f85 : rowU (rowU I 85 f) 87 (ind Q) 85 y = f y := by rw [rowU_ne (by decide), rowU_eq]
    have f87 : rowU (rowU I 85 f) 87 (ind Q) 87 y = b01 (Q y) := by rw [rowU_eq]; rfl
    have stay : (Vs J y → f y < m → False) → (J 95 y = 1 → Q y → ∀ b, Eg J s y b → Q b) → ∃ x1 : (Int → Int) × (Int → Prop), Go 25 86 [.inr (.inl (some 83)), .inr (.inl (some n)), .inl (x - 1), .inl l, .inl z, .inl m, .inl y] [] (mI h (rowU (rowU I 85 f) 87 (ind Q))) = Go 25 38 [.inr (.inl (some 83)), .inr (.inl (some n)), .inl (x - 1), .inl l, .inl z, .inl m, .inl (T - 1 - (k + 1))] [] (mI h (rowU (rowU I 85 x1.1) 87 (ind x1.2))) ∧ StJ J s z x1.1 ∧ (∀ a, T - 1 - (k + 1) < a → Vs J a → x1.1 a < m → (∀ b, Ep J s a b → x1.1 b ≤ x1.1 a + 1) ∧ x1.2 a ∧ x1.2 (atR J a 0)) ∧ (∀ j, x1.2 j → Wn J s x l j) ∧ x1.2 (x - 1) ∧ ∀ a, T - 1 - (k + 1) < a → J 95 a = 1 → x1.2 a → ∀ b, Eg J s a b → x1.2 b := fun nv nf => by
      refine ⟨(f, Q), e86 f Q, q1, fun a ha va fa => ?_, q3, q4, fun a ha a1 qa b eb => ?_⟩
      · by_cases ay : a = y
        · subst ay; exact absurd (nv va fa) id
        · exact q2 a (by omega) va fa
      · by_cases ay : a = y
        · subst ay; exact nf a1 qa b eb
        · exact q5 a (by omega) a1 qa b eb
    rw [← hy, b25_38, if_neg (by omega), b25_40 L2 L0, k3 L0 (BU _ _) R, caln_r, kdO_t y0, b25_44]
    have h69 : ¬(Vs J y ∧ f y < m) → ∃ x1 : (Int → Int) × (Int → Prop), Go 25 69 [.inr (.inl (some 83)), .inr (.inl (some n)), .inl (x - 1), .inl l, .inl z, .inl m, .inl y] [] (mI h (rowU (rowU I 85 f) 87 (ind Q))) = Go 25 38 [.inr (.inl (some 83)), .inr (.inl (some n)), .inl (x - 1), .inl l, .inl z, .inl m, .inl (T - 1 - (k + 1))] [] (mI h (rowU (rowU I 85 x1.1) 87 (ind x1.2))) ∧ StJ J s z x1.1 ∧ (∀ a, T - 1 - (k + 1) < a → Vs J a → x1.1 a < m → (∀ b, Ep J s a b → x1.1 b ≤ x1.1 a + 1) ∧ x1.2 a ∧ x1.2 (atR J a 0)) ∧ (∀ j, x1.2 j → Wn J s x l j) ∧ x1.2 (x - 1) ∧ ∀ a, T - 1 - (k + 1) < a → J 95 a = 1 → x1.2 a → ∀ b, Eg J s a b → x1.2 b := fun nv => by
      rw [b25_69 L2 L0, k3 L0 (BU _ _) R, caln_r, kdO_t y0, b25_73]
      by_cases c1 : J 95 y = 1
      · rw [if_neg (fun t => t c1), b25_75 L2 L7 (by omega), f87]
        by_cases c2 : Q y
        · have hC2 : ShC (rowU (rowU I 85 f) 87 (ind Q)) J n s := by rw [ShC_U (by omega), ShC_U (by omega)]; exact hC
          have e74 : Go 74 0 [.inr (.inl (some 86)), .inr (.inl (some n)), .inl y, vU, vU] [] (mI h (rowU (rowU I 85 f) 87 (ind Q))) = some (mI h (rowU (rowU I 85 f) 87 (ind (fun j => Q j ∨ Eg J s y j))), .inl none) := by
            have B5 : BC (rowU I 85 f) J := by rw [BC_U (by decide)]; exact B
            have C5 : ShC (rowU I 85 f) J n s := by rw [ShC_U (by omega)]; exact hC
            exact k74 (a := 86) L0 L7 L4 B5 R Sh C5 (by decide) (by omega) hs y0
          rw [b01_t c2, if_neg neg1_ne, b25_81 L2 L7, e74, caln_v, e86]
          refine ⟨(f, fun j => Q j ∨ Eg J s y j), rfl, q1, fun a ha va fa => ?_, fun j q => ?_, Or.inl q4, fun a ha a1 qa b eb => ?_⟩
          · by_cases ay : a = y
            · subst ay; exact absurd ⟨va, fa⟩ nv
            · have := q2 a (by omega) va fa
              exact ⟨this.1, Or.inl this.2.1, Or.inl this.2.2⟩
          · obtain q | q := q
            · exact q3 j q
            · obtain (⟨i, r, _⟩ | r) | r := q3 y c2
              · have := (Rh_v R.1 V (by rw [← hzz]; exact hz) i y r).2
                omega
              · exact Or.inl (Or.inr (Cl_step r q))
              · rw [← r] at h2
                omega
          · by_cases ay : a = y
            · subst ay; exact Or.inr eb
            · obtain qa | qa := qa
              · exact Or.inl (q5 a (by omega) a1 qa b eb)
              · have := (Eg_lt R.1 y0 qa).2
                omega
        · rw [b01_f c2, if_pos rfl]
          exact stay (fun v f => nv ⟨v, f⟩) (fun _ q => absurd q c2)
      · rw [if_pos c1]
        exact stay (fun v f => nv ⟨v, f⟩) (fun q => absurd q c1)
    by_cases c1 : J 95 y = 2
    · have vy : Vs J y := ⟨y0, c1⟩
      rw [if_neg (fun t => t c1), b25_46 L2 (by omega), f85]
      by_cases c2 : m ≤ f y
      · rw [if_pos c2]
        exact h69 (fun t => by have := t.2; omega)
      · have fy := q1.2 y y0.1 y0.2
        have fy3 := fy.2.resolve_left (by omega)
        have wy : Wv J s z l y := ⟨(f y).toNat, fy3.2.2, by omega⟩
        have a0 := (R.1.2 y y0.1 y0.2).2 0 (lkr y vy)
        have B5 : ∀ S : Int → Prop, BC (rowU I 87 (ind S)) J := fun S => by rw [BC_U (by decide)]; exact B
        have C5 : ∀ S : Int → Prop, ShC (rowU I 87 (ind S)) J n s := fun S => by rw [ShC_U (by omega)]; exact hC
        obtain ⟨g, e26, g1, g2⟩ := k26 (h := h) (I := rowU I 87 (ind (fun j => (Q j ∨ j = y) ∨ j = atR J y 0))) (J := J) (n := n) (s := s) (x := y) (f := f) (v3 := vU) (v4 := vU) (v5 := vU) L0 L2 L4 hn (B5 _) R V (C5 _) vy (fun j j0 j1 => by
          have hj := q1.2 j j0 j1
          omega)
        rw [rowU_cm (by decide), rowU_cm (f := ind _) (by decide : (87 : Nat) ≠ 85)] at e26
        have gz : ∀ j, y < j → g j = f j := fun j hj => (g1 j).2.resolve_right (fun t => by have := (Ep_v R.1 V vy t.2).2; omega)
        have gy : g y = f y := (g1 y).2.resolve_right (fun t => by have := (Ep_v R.1 V vy t.2).2; omega)
        rw [if_neg c2, b25_52 L2 L7, m72 _ _ y (by omega), caln_v, b25_56 L2 L0, k7 L0 (BU _ _) R, caln_r, lk0 y vy, b25_63 L7, m72 _ _ (atR J y 0) (by omega), caln_v, b25_64 L2, e26, caln_v, b25_68, e86]
        refine ⟨(g, fun j => (Q j ∨ j = y) ∨ j = atR J y 0), rfl, ⟨?_, fun j j0 j1 => ?_⟩, fun a ha va fa => ?_, fun j q => ?_, Or.inl (Or.inl q4), fun a ha a1 qa b eb => ?_⟩
        · have := (g1 z).1
          have q := q1.1
          obtain r | r := (g1 z).2
          · exact r.trans q
          · dsimp only
            omega
        · dsimp only
          obtain r | ⟨r, ee⟩ := (g1 j).2
          · rw [r]; exact q1.2 j j0 j1
          · have vb := Ep_v R.1 V vy ee
            have en : (f y + 1).toNat = (f y).toNat + 1 := by omega
            refine ⟨by omega, Or.inr ⟨by omega, vb.1, ?_⟩⟩
            rw [r, en]
            exact Or.inr ⟨y, fy3.2.2, ee⟩
        · dsimp only at fa ⊢
          by_cases ay : a = y
          · subst ay
            rw [gy]
            exact ⟨g2, Or.inl (Or.inr rfl), Or.inr rfl⟩
          · have ga := gz a (by omega)
            rw [ga] at fa ⊢
            obtain ⟨t1, t2, t3⟩ := q2 a (by omega) va fa
            exact ⟨fun b eb => by have := t1 b eb; have := (g1 b).1; omega, Or.inl (Or.inl t2), Or.inl (Or.inl t3)⟩
        · obtain (q | q) | q := q
          · exact q3 j q
          · rw [q]; unfold Wn; rw [← hzz]; exact Or.inl (Or.inl wy)
          · unfold Wn
            rw [← hzz]
            exact Or.inl (Or.inr (Cl_base ⟨y, y0, wy, q⟩))
        · dsimp only at qa ⊢
          by_cases ay : a = y
          · subst ay; omega
          · obtain (qa | qa) | qa := qa
            · exact Or.inl (Or.inl (q5 a (by omega) a1 qa b eb))
            · exact absurd qa ay
            · omega
    · rw [if_pos c1]
      exact h69 (fun t => c1 t.1.2)
  · dsimp only
    by_cases c : k = z
    · subst c
      rw [up1_eq]
      exact ⟨Int.le_refl _, Or.inr ⟨by omega, hz, rfl⟩⟩
    · rw [up1_ne c, fillR_in (by omega)]
      exact ⟨by decide, Or.inl rfl⟩
