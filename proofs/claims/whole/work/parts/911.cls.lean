/-! ===== the class (41): the courier: the plan ===== -/
theorem ShC_N {I J : Nat → Int → Int} {n : Nat} {s : Int} (N : NC I J n s) (hT : J 94 0 ≤ 100) : ShC I J n s := fun o o0 o1 => (N.2.2 o o0 (by omega)).2.1
theorem k24 {h : HP} {I J : Nat → Int → Int} {a1 a2 : Nat} {u t r l hf : Int} {P4 P7 P9 : Int → Prop} {v6 v7 : MV} (h1 : a1 = 10 ∨ a1 = 42) (h2 : a2 = 10 ∨ a2 = 42) (L0 : LX 0 h 2) (L2 : LX 2 h 83) (Lw : LX 7 h 86) (Lh : LX 7 h 88) (L8 : LX 8 h a1) (L3 : LX 3 h (a1 + 1)) (L4 : LX 4 h (a1 + 7)) (M8 : LX 8 h a2) (M3 : LX 3 h (a2 + 1)) (M4 : LX 4 h (a2 + 7)) (O : OWN h)
    (B : BC I J) (R : RB J) (T : WT J) (V : WV J) (Sh : WSh J) (D1 : DC h I J (a1 + 1) u) (D2 : DC h I J (a2 + 1) t) (M : PM J) (Wr : WR J) (Wk : WRk J) (hu : u = 0 ∨ u = 1) (ht : t = 1 - u) (hr : 0 ≤ r ∧ r < 6) (hx : J 115 (6 * u + r) ≠ 0) (hl : 0 ≤ l ∧ l ≤ 20) (hh : hf = 0 ∨ hf = 1)
    (p4 : ∀ j, P4 j → 0 ≤ j ∧ j < J 94 0) (i4 : I 84 = ind P4) (p7 : S1 P7) (i7 : I 87 = ind P7) (p9 : S1 P9) (i9 : I 89 = ind P9) :
    ∃ I1, Go 24 0 [.inr (.inl (some 83)), .inr (.inl (some a1)), .inr (.inl (some a2)), .inl (J 115 (6 * u + r) - 1), .inl l, .inl hf, v6, v7] [] (mI h I) = some (mI h I1, .inl none) ∧ I1 84 = ind (fS J u r l hf) ∧ I1 87 = ind (Wn J u (J 115 (6 * u + r)) l) ∧ I1 89 = ind (Hd J t) ∧ I1 83 5 = fN J u r l hf ∧ (∀ c, c < 83 ∨ 89 < c → I1 c = I c) ∧ ∀ k, k ≠ 5 → I1 83 k = I 83 k := by
  have hT := R.1.1
  have K := T.2.2.2.1
  have WLJ := T.2.1
  have ht2 : t = 0 ∨ t = 1 := by omega
  obtain ⟨x, hxx⟩ : ∃ x, x = J 115 (6 * u + r) := ⟨_, rfl⟩
  rw [← hxx] at hx ⊢
  have wr := Wr (6 * u + r) (by omega) (by omega)
  have wk := Wk (6 * u + r) (by omega) (by omega)
  rw [← hxx] at wr wk
  have hx2 : 0 < x ∧ x ≤ J 94 0 := by omega
  have fr : ∀ K : Nat → Int → Int, (∀ c, c < 83 ∨ 89 < c → K c = I c) → BC K J ∧ DC h K J (a1 + 1) u ∧ DC h K J (a2 + 1) t := fun K hK =>
    ⟨by rw [BC_I (I := I) (fun c hc => hK c (by omega))]; exact B, DC_I O (by omega) (fun c hc => hK c (by omega)) D1, DC_I O (by omega) (fun c hc => hK c (by omega)) D2⟩
  have nc : ∀ K : Nat → Int → Int, (∀ c, c < 83 ∨ 89 < c → K c = I c) → NC K J (a1 + 7) u ∧ NC K J (a2 + 7) t := fun K hK => ⟨(DC_n.mp (fr K hK).2.1).2, (DC_n.mp (fr K hK).2.2).2⟩
  obtain ⟨A, eA, a87, fA⟩ := k25 (h := h) (I := I) (J := J) (n := a1 + 7) (s := u) (x := x) (l := l) (P := P7) (v4 := vU) (v5 := vU) (v6 := vU) L0 L2 Lw L4 (by omega) B R V Sh (ShC_N (nc I (fun _ _ => rfl)).1 hT.2) hu hx2 (wk hx) hl p7 i7
  have fA2 : ∀ c, c < 83 ∨ 89 < c → A c = I c := fun c hc => fA c (by omega) (by omega)
  have a89 : A 89 = ind P9 := by rw [fA 89 (by decide) (by decide), i9]
  have a84 : A 84 = ind P4 := by rw [fA 84 (by decide) (by decide), i4]
  have eA2 : mI h A = mI h (rowU A 89 (ind P9)) := by rw [← a89, rowU_id]
  have e71 : Go 71 0 [.inr (.inl (some 88)), vU] [] (mI h (rowU A 89 (ind P9))) = some (mI h (rowU A 89 (ind (fun _ => False))), .inl none) := k71 (a := 88) Lh p9
  have e85 : Go 85 0 [.inr (.inl (some a2)), .inr (.inl (some 88)), vU] [] (mI h (rowU A 89 (ind (fun _ => False)))) = some (mI h (rowU A 89 (ind (fun j => False ∨ Rf J t j))), .inl none) := k85 (a := 88) h2 (by decide) M8 M3 M4 Lh (nc A fA2).2 Wr hT.2 ht2
  have Rr : ∀ j, (False ∨ Rf J t j) → 0 ≤ j ∧ j < J 94 0 := fun j q => by
    obtain ⟨k, k0, k1, q0, q1⟩ := q.resolve_left id
    have := Wr k (by omega) (by omega)
    omega
  have e75 : Go 75 0 [.inr (.inl (some 88)), .inr (.inl (some ((a2 + 7)))), vU] [] (mI h (rowU A 89 (ind (fun j => False ∨ Rf J t j)))) = some (mI h (rowU A 89 (ind (Cl (Eg J t) (Rf J t)))), .inl none) := by
    have := k75 (h := h) (I := A) (J := J) (a := 88) (n := a2 + 7) (P := fun j => False ∨ Rf J t j) (s := t) (v2 := vU) L0 Lh M4 (fr A fA2).1 R Sh (ShC_N (nc A fA2).2 hT.2) (by decide) (by omega) ht2 Rr
    rw [show (fun j => False ∨ Rf J t j) = Rf J t from funext (fun j => propext ⟨fun q => q.resolve_left id, Or.inr⟩)] at this ⊢
    exact this
  obtain ⟨X, hX⟩ : ∃ X, X = zu2 (rowU A 89 (ind (Cl (Eg J t) (Rf J t)))) 83 5 0 := ⟨_, rfl⟩
  have Xf : ∀ c, c ≠ 83 → c ≠ 89 → X c = A c := fun c c0 c1 => by rw [hX, zu2_row, rowU_ne c0, rowU_ne c1]
  have X83 : X 83 = up1 (I 83) 5 0 := by rw [hX, zu2_row, rowU_eq, rowU_ne (by decide), fA 83 (by decide) (by decide)]
  have X89 : X 89 = ind (Cl (Eg J t) (Rf J t)) := by rw [hX, zu2_row, rowU_ne (by decide), rowU_eq]
  obtain ⟨S, hS⟩ : ∃ S : Int → Prop, S = fS J u r l hf := ⟨_, rfl⟩
  have Sr : ∀ j, S j → 0 ≤ j ∧ j < J 94 0 := fun j q => by
    rw [hS] at q
    have q1 := q.1
    rw [← hxx] at q1
    exact Wn_r R.1 V hx2 (tp_v R.1 V hx2 (wk hx)) j q1
  -- the loop
  have key := lpE (fun k (y : (Nat → Int → Int) × MV) => Go 24 25 [.inr (.inl (some 83)), .inr (.inl (some a1)), .inr (.inl (some a2)), .inl (x - 1), .inl l, .inl hf, .inl k, y.2] [] (mI h y.1))
    (fun k y => y.1 84 = ind (fun j => (S j ∧ j < k) ∨ (P4 j ∧ k ≤ j)) ∧ y.1 89 = ind (fun j => Cl (Eg J t) (Rf J t) j ∧ (j < k → Th J t j)) ∧ y.1 83 5 = cN S k.toNat ∧ (∀ c, c ≠ 83 → c ≠ 84 → c ≠ 89 → y.1 c = X c) ∧ ∀ i, i ≠ 5 → y.1 83 i = I 83 i) 0 (J 94 0) hT.1 ?_ (X, v7)
    ⟨by
      dsimp only
      rw [Xf 84 (by decide) (by decide), a84]
      exact ind_c (fun j => ⟨fun q => Or.inr ⟨q, (p4 j q).1⟩, fun q => q.elim (fun q => by have := Sr j q.1; omega) And.left⟩), by
      dsimp only
      rw [X89]
      exact ind_c (fun j => ⟨fun q => ⟨q, fun hj => by have := Cl_lt R.1 (fun j q => Rr j (Or.inr q)) j q; omega⟩, And.left⟩), by dsimp only; rw [X83, up1_eq]; rfl, fun _ _ _ _ => rfl, fun i hi => by dsimp only; rw [X83, up1_ne hi]⟩
  · obtain ⟨⟨Y, w⟩, e, q1, q2, q3, q4, q5⟩ := key
    dsimp only at e q1 q2 q3 q4 q5
    have e27 : Y 2 7 = J 94 0 := by rw [q4 2 (by decide) (by decide) (by decide), Xf 2 (by decide) (by decide), fA2 2 (by decide)]; exact B.1
    refine ⟨Y, ?_, ?_, ?_, ?_, ?_, fun c hc => by rw [q4 c (by omega) (by omega) (by omega), Xf c (by omega) (by omega), fA2 c hc], q5⟩
    · rw [b24_0 L8 L3 L2, eA, caln_v, b24_7 L2 Lh, eA2, e71, caln_v, b24_10 L2 M8, e85, caln_v, b24_14 L2 M8 M3 Lh, e75, caln_v, b24_20 L2, ← hX, e, b24_25 L2 L0, e27, if_pos (Int.le_refl _), b24_108]
    · rw [q1, ← hS]
      exact ind_c (fun j => ⟨fun q => q.elim And.left (fun q => by have := p4 j q.1; omega), fun q => Or.inl ⟨q, (Sr j q).2⟩⟩)
    · rw [q4 87 (by decide) (by decide) (by decide), Xf 87 (by decide) (by decide), a87]
    · rw [q2]
      exact ind_c (fun j => ⟨fun q => ⟨q.1, q.2 (Cl_lt R.1 (fun j q => Rr j (Or.inr q)) j q.1).2⟩, fun q => ⟨q.1, fun _ => q.2⟩⟩)
    · rw [q3, hS]
      rfl
  · rintro y ⟨Y, w⟩ y0 y1 ⟨q1, q2, q3, q4, q5⟩
    dsimp only at q1 q2 q3 q4 q5 ⊢
    have gf : ∀ G : Nat → Int → Int, (∀ c, c ≠ 83 → c ≠ 84 → c ≠ 89 → G c = X c) → ∀ c, c < 83 ∨ 89 < c → G c = I c := fun G hG c hc => by rw [hG c (by omega) (by omega) (by omega), Xf c (by omega) (by omega), fA2 c hc]
    have e27 : Y 2 7 = J 94 0 := by rw [gf Y q4 2 (by decide)]; exact B.1
    have Y89 : Y 89 y = b01 (Cl (Eg J t) (Rf J t) y) := by
      rw [q2]
      exact b01_c ⟨And.left, fun q => ⟨q, fun t => absurd t (by omega)⟩⟩
    obtain ⟨hd, hhd⟩ : ∃ hd, hd = b01 (Hd J t y) := ⟨_, rfl⟩
    have hd01 : hd = 0 ∨ hd = 1 := by rw [hhd]; exact b01_or _
    obtain ⟨Z, hZ⟩ : ∃ Z, Z = zu2 Y 89 y hd := ⟨_, rfl⟩
    have Zq : ∀ c, c ≠ 83 → c ≠ 84 → c ≠ 89 → Z c = X c := fun c c0 c1 c2 => by rw [hZ, zu2_row, rowU_ne c2, q4 c c0 c1 c2]
    have Zf := gf Z Zq
    -- had
    have s1 : Go 24 25 [.inr (.inl (some 83)), .inr (.inl (some a1)), .inr (.inl (some a2)), .inl (x - 1), .inl l, .inl hf, .inl y, w] [] (mI h Y) = Go 24 53 [.inr (.inl (some 83)), .inr (.inl (some a1)), .inr (.inl (some a2)), .inl (x - 1), .inl l, .inl hf, .inl y, w] [.inl (J 95 y)] (mI h Z) := by
      have fin : ∀ st, st = hd → Go 24 48 [.inr (.inl (some 83)), .inr (.inl (some a1)), .inr (.inl (some a2)), .inl (x - 1), .inl l, .inl hf, .inl y, w] [.inl st, .inl y, .inr (.inl (some 89))] (mI h Y) = Go 24 53 [.inr (.inl (some 83)), .inr (.inl (some a1)), .inr (.inl (some a2)), .inl (x - 1), .inl l, .inl hf, .inl y, w] [.inl (J 95 y)] (mI h Z) := fun st hst => by
        rw [hst, b24_48 Lh (by omega) hd01 L2 L0, ← hZ, k3 L0 (fr Z Zf).1 R, caln_r, kdO_t ⟨y0, y1⟩]
      rw [b24_25 L2 L0, e27, if_neg (by omega), b24_30 L2 Lh (by omega), Y89]
      by_cases c : Cl (Eg J t) (Rf J t) y
      · rw [b01_t c, if_neg neg1_ne, b24_40 M8 M3, k37 M3 (fr Y (gf Y q4)).2.2 M K WLJ ht2 ⟨y0, by omega⟩, caln_r, b24_44]
        by_cases d : Th J t y
        · rw [b01_t d, if_neg neg1_ne, b24_45, fin 1 (by rw [hhd, b01_t (p := Hd J t y) ⟨c, d⟩])]
        · rw [b01_f d, if_pos rfl, b24_47, fin 0 (by rw [hhd, b01_f (p := Hd J t y) (fun q => d q.2)])]
      · rw [b01_f c, if_pos rfl, b24_47, fin 0 (by rw [hhd, b01_f (p := Hd J t y) (fun q => c q.1)])]
    obtain ⟨lo, hlo⟩ : ∃ lo : Prop, lo = (J 95 y = 0 ∧ (hf ≠ 0 ∨ (J 117 (120 * u + y) ≠ 0 ∧ ¬Th J u y))) := ⟨_, rfl⟩
    -- left out
    have Z11 : Z (a1 + 11) y = J 117 (120 * u + y) := ((nc Z Zf).1.2.2 y y0 (by omega)).2.2
    have s2 : Go 24 53 [.inr (.inl (some 83)), .inr (.inl (some a1)), .inr (.inl (some a2)), .inl (x - 1), .inl l, .inl hf, .inl y, w] [.inl (J 95 y)] (mI h Z) = Go 24 71 [.inr (.inl (some 83)), .inr (.inl (some a1)), .inr (.inl (some a2)), .inl (x - 1), .inl l, .inl hf, .inl y, w] [.inl (b01 lo)] (mI h Z) := by
      rw [b24_53]
      by_cases c0 : J 95 y = 0
      · rw [if_neg (fun t => t c0), b24_54]
        by_cases c1 : hf = 0
        · rw [if_neg (fun t => t c1), b24_56 L8 L3 L4 (by omega), Z11]
          by_cases c2 : J 117 (120 * u + y) = 0
          · rw [if_pos c2, b24_70, b01_f (fun q => by rw [hlo] at q; exact q.2.elim (fun t => t c1) (fun t => t.1 c2))]
          · rw [if_neg c2, b24_63 L8 L3, k37 L3 (fr Z Zf).2.1 M K WLJ hu ⟨y0, by omega⟩, caln_r, b24_67]
            by_cases c3 : Th J u y
            · rw [b01_t c3, if_pos neg1_ne, b24_70, b01_f (fun q => by rw [hlo] at q; exact q.2.elim (fun t => t c1) (fun t => t.2 c3))]
            · rw [b01_f c3, if_neg (fun t => t rfl), b24_68, b01_t (by rw [hlo]; exact ⟨c0, Or.inr ⟨c2, c3⟩⟩)]
        · rw [if_pos c1, b24_68, b01_t (by rw [hlo]; exact ⟨c0, Or.inl c1⟩)]
      · rw [if_pos c0, b24_70, b01_f (fun q => by rw [hlo] at q; exact c0 q.1)]
    have Sy : S y ↔ Wn J u x l y ∧ ¬Hd J t y ∧ ¬lo := by
      rw [hS, hlo, hxx, ht]
      exact Iff.rfl
    have Z87 : Z 87 y = b01 (Wn J u x l y) := by rw [Zq 87 (by decide) (by decide) (by decide), Xf 87 (by decide) (by decide), a87]; rfl
    have Z89 : Z 89 y = hd := by rw [hZ, zu2_row, rowU_eq, up1_eq]
    have Z83 : Z 83 = Y 83 := by rw [hZ, zu2_row, rowU_ne (by decide)]
    have Z84 : Z 84 = Y 84 := by rw [hZ, zu2_row, rowU_ne (by decide)]
    have s3 : Go 24 71 [.inr (.inl (some 83)), .inr (.inl (some a1)), .inr (.inl (some a2)), .inl (x - 1), .inl l, .inl hf, .inl y, w] [.inl (b01 lo)] (mI h Z) = Go 24 92 [.inr (.inl (some 83)), .inr (.inl (some a1)), .inr (.inl (some a2)), .inl (x - 1), .inl l, .inl hf, .inl y, .inl (b01 lo)] [.inl (b01 (S y)), .inl y, .inr (.inl (some 84))] (mI h Z) := by
      rw [b24_71 L2 Lw (by omega), Z87]
      by_cases c0 : Wn J u x l y
      · rw [b01_t c0, if_neg neg1_ne, b24_81 L2 Lh (by omega), Z89, hhd]
        by_cases c1 : Hd J t y
        · rw [b01_t c1, if_pos neg1_ne, b24_91, b01_f (p := S y) (fun q => (Sy.mp q).2.1 c1)]
        · rw [b01_f c1, if_neg (fun t => t rfl), b24_87]
          by_cases c2 : lo
          · rw [b01_t c2, if_pos neg1_ne, b24_91, b01_f (p := S y) (fun q => (Sy.mp q).2.2 c2)]
          · rw [b01_f c2, if_neg (fun t => t rfl), b24_89, b01_t (p := S y) (Sy.mpr ⟨c0, c1, c2⟩)]
      · rw [b01_f c0, if_pos rfl, b24_91, b01_f (p := S y) (fun q => c0 (Sy.mp q).1)]
    obtain ⟨G, hG⟩ : ∃ G, G = zu2 Z 84 y (b01 (S y)) := ⟨_, rfl⟩
    have G84 : G 84 = up1 (Y 84) y (b01 (S y)) := by rw [hG, zu2_row, rowU_eq, Z84]
    have G83 : G 83 = Y 83 := by rw [hG, zu2_row, rowU_ne (by decide), Z83]
    have cb := cN_b (P := S) y.toNat
    have es : cN S (y + 1).toNat = cN S y.toNat + b01 (S y) := cN_s y0
    have b1 := b01_or (S y)
    have s4 : Go 24 92 [.inr (.inl (some 83)), .inr (.inl (some a1)), .inr (.inl (some a2)), .inl (x - 1), .inl l, .inl hf, .inl y, .inl (b01 lo)] [.inl (b01 (S y)), .inl y, .inr (.inl (some 84))] (mI h Z) = Go 24 25 [.inr (.inl (some 83)), .inr (.inl (some a1)), .inr (.inl (some a2)), .inl (x - 1), .inl l, .inl hf, .inl (y + 1), .inl (b01 lo)] [] (mI h (zu2 G 83 5 (cN S (y + 1).toNat))) := by
      rw [b24_92 L2 (by omega) b1 (by omega), ← hG, G84, up1_eq, G83, q3, es]
      by_cases c : S y
      · rw [b01_t c, if_neg neg1_ne, b24_101, b24_104 (by omega) L2 (by omega)]
      · rw [b01_f c, if_pos rfl, b24_103, b24_104 (by omega) L2 (by omega)]
    refine ⟨(zu2 G 83 5 (cN S (y + 1).toNat), .inl (b01 lo)), by rw [s1, s2, s3, s4], ?_, ?_, by dsimp only; rw [zu2_row, rowU_eq, up1_eq], fun c c0 c1 c2 => by dsimp only; rw [zu2_row, rowU_ne c0, hG, zu2_row, rowU_ne c1, Zq c c0 c1 c2], fun i hi => by dsimp only; rw [zu2_row, rowU_eq, up1_ne hi, G83, q5 i hi]⟩
    · dsimp only
      rw [zu2_row, rowU_ne (by decide), G84, q1]
      refine funext (fun j => ?_)
      by_cases c : j = y
      · subst c
        rw [up1_eq]
        exact b01_c ⟨fun q => Or.inl ⟨q, by omega⟩, fun q => q.elim And.left (fun q => by omega)⟩
      · rw [up1_ne c]
        exact b01_c ⟨fun q => q.imp (fun q => ⟨q.1, by omega⟩) (fun q => ⟨q.1, by omega⟩), fun q => q.imp (fun q => ⟨q.1, by omega⟩) (fun q => ⟨q.1, by omega⟩)⟩
    · dsimp only
      rw [zu2_row, rowU_ne (by decide), hG, zu2_row, rowU_ne (by decide), hZ, zu2_row, rowU_eq, q2]
      refine funext (fun j => ?_)
      by_cases c : j = y
      · subst c
        rw [up1_eq, hhd]
        exact b01_c ⟨fun q => ⟨q.1, fun _ => q.2⟩, fun q => ⟨q.1, q.2 (by omega)⟩⟩
      · rw [up1_ne c]
        exact b01_c ⟨fun q => ⟨q.1, fun t => q.2 (by omega)⟩, fun q => ⟨q.1, fun t => q.2 (by omega)⟩⟩
