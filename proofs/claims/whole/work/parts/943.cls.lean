/-! ===== the calls (26): content; folder ===== -/
section OPS20
variable {n m : Int} {h h1 : HP} {I I1 J K M D X Y : Nat → Int → Int}
theorem tH_id (h : D 94 49 = 0) : tH D 0 = D := by
  unfold tH
  have : up1 (D 94) 49 0 = D 94 := by
    funext k
    by_cases c : k = 49
    · subst c; rw [up1_eq, h]
    · rw [up1_ne c]
  rw [this, rowU_id]
/-- what the reference tells -/
theorem tW_q {s c : Int} (d : dV J D) (h49 : D 94 49 = 0) : RQ (tW D s c) (eTt J D s c) ∧ (∀ k, k ≠ 5 → tW D s c 94 k = eTt J D s c 94 k) ∧ tW D s c 94 5 = 0 ∧ (tW D s c 99 = D 99 ∧ tW D s c 100 = D 100) ∧ (∀ a, a < 94 ∨ 132 ≤ a → tW D s c a = J a) ∧ tJ D c 98 (tO D c) = eTx J D c 98 (eTo J D c) := by
  have e0 : D 94 0 = J 94 0 := d.2 0 (by decide)
  have eh := tH_id h49
  have q : RQ (rowU (tJ D c) 94 (up1 (tJ D c 94) 5 0)) (eTx J D c) ∧ tO D c = eTo J D c ∧ (∀ k, k ≠ 5 → tJ D c 94 k = eTx J D c 94 k) ∧ (tJ D c 99 = D 99 ∧ tJ D c 100 = D 100) ∧ (∀ a, a < 94 ∨ 132 ≤ a → tJ D c a = J a) ∧ tJ D c 98 = eTx J D c 98 := by
    unfold tJ tO eTx eTo
    rw [eh]
    by_cases c0 : 0 ≤ sm D c
    · rw [if_pos c0, if_pos c0, if_pos c0, if_pos c0]
      refine ⟨⟨fun a h1 h2 h3 => ?_, ?_, ?_⟩, rfl, d.2, ⟨rfl, rfl⟩, fun a ha => d.1 a (by omega) (by omega) (by omega), d.1 98 (by decide) (by decide) (by decide)⟩
      · rw [rowU_ne h1]; exact d.1 a h1 h2 h3
      · rw [rowU_eq, up1_ne (by decide)]; exact e0
      · rw [rowU_eq, up1_ne (by decide)]; exact d.2 8 (by decide)
    · rw [if_neg c0, if_neg c0, if_neg c0, if_neg c0]
      have k4 : ∀ k, k ≠ 5 → nB D c 94 k = nD J D c 94 k := fun k hk => by
        rw [nD_4]
        by_cases z : k = 0
        · subst z; rw [nB_940, up1_eq, e0]
        · rw [nB_94 z, up1_ne z]; exact d.2 k hk
      refine ⟨⟨fun a h1 h2 h3 => ?_, ?_, ?_⟩, e0, k4, ⟨nB_f (by decide), nB_f (by decide)⟩, fun a ha => by rw [nB_f (by omega)]; exact d.1 a (by omega) (by omega) (by omega), (nD_b (by decide)).symm⟩
      · rw [rowU_ne h1]
        by_cases b : 95 ≤ a ∧ a ≤ 98
        · rw [nD_b b]
        · rw [nD_f (by omega), nB_f (by omega), d.1 a h1 h2 h3]
      · rw [rowU_eq, up1_ne (by decide)]; exact k4 0 (by decide)
      · rw [rowU_eq, up1_ne (by decide)]; exact k4 8 (by decide)
  obtain ⟨q1, q2, q3, q4, q5, q6⟩ := q
  unfold tW eTt
  rw [q2, q6]
  refine ⟨RQ_wW q1, fun k hk => ?_, ?_, ⟨?_, ?_⟩, fun a ha => ?_, rfl⟩
  · rw [wW_f (by decide), wW_f (by decide), rowU_eq, up1_ne hk]
    exact q3 k hk
  · rw [wW_f (by decide), rowU_eq, up1_eq]
  · rw [wW_f (by decide), rowU_ne (by decide)]; exact q4.1
  · rw [wW_f (by decide), rowU_ne (by decide)]; exact q4.2
  · rw [wW_f (by omega), rowU_ne (by omega)]; exact q5 a ha
theorem RS_cl (E : EV n h I J) : RS h I h (zu2 I 1 11 0) (clK J) := by
  obtain ⟨⟨d1, d2⟩, d3, d4⟩ := (ev_C E).2.1
  have A1 : zu2 I 1 11 0 1 = up1 (I 1) 11 0 := by rw [zu2_row, rowU_eq]
  have k5 : clK J 94 = up1 (J 94) 5 0 := rowU_eq
  exact RS_f E (fun a ha => rowU_ne (by omega)) (by rw [k5, up1_ne (by decide)]) (by rw [k5, up1_ne (by decide)]) (fun a ha => by rw [zu2_row, rowU_ne (by omega)]) ⟨⟨by rw [A1, up1_eq, k5, up1_eq], fun k k0 k1 => by rw [k5, up1_eq] at k1; omega⟩, by rw [A1, up1_ne (by decide), k5, up1_ne (by decide), d3], by rw [A1, up1_ne (by decide), k5, up1_ne (by decide), d4]⟩
theorem eTt_f {s c : Int} {a : Nat} (h : a < 94 ∨ 132 ≤ a ∨ a = 99 ∨ a = 100) : eTt J D s c a = J a := by
  unfold eTt eTx
  rw [wW_f (by omega)]
  split
  · rfl
  · exact nD_f (by omega)
theorem eTt_5 {s c k : Int} (hk : k ≠ 0) : eTt J D s c 94 k = J 94 k := by
  unfold eTt eTx
  rw [wW_f (by decide)]
  split
  · rfl
  · rw [nD_4, up1_ne hk]
/-- the reference's memory after telling the draft -/
theorem tW_cl {s c : Int} (h49 : J 94 49 = 0) : AW (clK (eTt J J s c)) (tW J s c) := by
  obtain ⟨q1, q2, q3, q4, q5, _⟩ := tW_q (s := s) (c := c) dV_r h49
  have e4 : ∀ k, k ≠ 49 → tW J s c 94 k = clK (eTt J J s c) 94 k := fun k _ => by
    unfold clK
    rw [rowU_eq]
    by_cases z : k = 5
    · subst z; rw [up1_eq, q3]
    · rw [up1_ne z]; exact q2 k z
  refine ⟨fun a a0 a1 => ?_, e4⟩
  unfold clK
  rw [rowU_ne (by omega)]
  by_cases z9 : a = 99
  · subst z9; rw [q4.1, eTt_f (by decide)]
  by_cases z0 : a = 100
  · subst z0; rw [q4.2, eTt_f (by decide)]
  exact q1.1 a (by omega) z9 z0
-- content
def bigD (J : Nat → Int → Int) : Prop := ∃ k, 0 ≤ k ∧ k < J 94 5 ∧ 99 < J 99 k
theorem aw_bigD (g : AW I J) : bigD J = bigD I := by
  unfold bigD
  rw [g.2 5 (by decide), g.1 99 (by decide) (by decide)]
theorem k150 {v1 : MV} (E : EV n h I J) : Go 150 0 [.inr (.inl (some 1)), v1] [] (mI h I) = some (mI h I, .inl (some (.inl (b01 (¬bigD J))))) := by
  obtain ⟨⟨d1, d2⟩, d3, d4⟩ := (ev_C E).2.1
  have L10 := ly_10 E.1
  have w := (iv_D (ev_V E)).1
  rw [b150_0]
  refine lpQ (fun k (_ : Unit) => Go 150 2 [.inr (.inl (some 1)), .inl k] [] (mI h I)) (fun k _ => ∀ i, 0 ≤ i → i < k → J 99 i ≤ 99) (fun r => r = some (mI h I, .inl (some (.inl (b01 (¬bigD J)))))) 0 (J 94 5) w.1 ?_ ?_ () (fun i i0 i1 => by omega)
  · intro k _ k0 k1 hq
    rw [b150_2 L10, d1, if_neg (by omega), b150_6 L10 (by omega), d2 k k0 k1]
    by_cases c : J 99 k ≤ 99
    · right
      refine ⟨(), by rw [if_pos c, b150_14 (by omega)], fun i i0 i1 => ?_⟩
      by_cases e : i = k
      · rw [e]; exact c
      · exact hq i i0 (by omega)
    · left
      rw [if_neg c, b150_12, b01_f (fun q => q ⟨k, k0, k1, by omega⟩)]
  · intro _ hq
    rw [b150_2 L10, d1, if_pos (Int.le_refl _), b150_16, b01_t]
    rintro ⟨k, k0, k1, q⟩
    have := hq k k0 k1
    omega
noncomputable def coC (J : Nat → Int → Int) (s : Int) : Int := ic (s = 0 ∨ s = 1) (ic (bigD J) 2 (ic (eFull J J 0) 3 0)) 1
noncomputable def coK (J : Nat → Int → Int) (s : Int) : Nat → Int → Int := iP ((s = 0 ∨ s = 1) ∧ ¬bigD J ∧ ¬eFull J J 0) (clK (eTt J J s 0)) J
theorem k101 {s : Int} {v2 v3 : MV} (E : EV n h I J) : ∃ h1 I1, Go 101 0 [.inr (.inl (some 1)), .inl s, v2, v3] [] (mI h I) = some (mI h1 I1, oc eA (coC J s) (eTx J J 0 98 (eTo J J 0))) ∧ RS h I h1 I1 (coK J s) ∧ INV (n + 1) (coK J s) := by
  have L10 := ly_10 E.1
  have V := ev_V E
  obtain ⟨⟨d1, d2⟩, d3, d4⟩ := (ev_C E).2.1
  have wd := iv_D V
  unfold coC coK
  by_cases hs : s = 0 ∨ s = 1
  rotate_left
  · rw [ic_f hs, iP_f (fun q => hs q.1)]
    exact ⟨hThr h, I, by rw [b101_0 L10, k142x hs, caln_x]; rfl, RS_x E, INV_s V⟩
  rw [b101_0 L10, k142 E.1 hs, caln_r, b101_3 L10, k150 E, caln_r, b101_6, ic_t hs]
  by_cases c : bigD J
  · rw [b01_f (fun q => q c), if_neg (fun q => q rfl), b101_7, ic_t c, iP_f (fun q => q.2.1 c)]
    exact ⟨hThr h, I, rfl, RS_x E, INV_s V⟩
  rw [b01_t c, if_pos (by decide), b101_8 L10, d1, ic_f c]
  have N : NB J 0 := ⟨by decide, wd.1, ⟨fun q => absurd q (by decide), fun q => absurd q (by decide), fun q => absurd q (by decide)⟩, wd.2, fun j j0 j1 q => by omega⟩
  have B : VB J 0 := fun j j0 j1 => ⟨fun q => absurd q (by decide), fun q => absurd q (by decide), fun q => absurd q (by decide), fun q => absurd q (by decide)⟩
  obtain ⟨p1, p2⟩ := k153 (b := 92) (v5 := vU) E hs dV_r wd N B (LX_k L10 9 false 91 0 12 rfl) (by decide) d2
  by_cases f : eFull J J 0
  · rw [p1 f, caln_x, ic_t f, iP_f (fun q => q.2.2 f)]
    exact ⟨hThr h, I, rfl, RS_x E, INV_s V⟩
  · obtain ⟨I1, e1, E1, f1⟩ := p2 f
    rw [e1, caln_r, b101_16 L10, ic_f f, iP_t ⟨hs, c, f⟩]
    exact ⟨h, _, rfl, RS_tr (I0 := I1) (fun a a0 a1 => f1 a (by omega) a1) (RS_cl E1), INV_cl (ev_V E1)⟩
theorem WSc_cl {s c : Int} (S : WSc J) (h49 : J 94 49 = 0) : WSc (tW J s c) := fun a a0 a1 => by
  rw [(tW_q (s := s) (c := c) dV_r h49).2.2.2.2.1 a (by omega)]
  exact S a a0 a1
theorem s101 {s : Int} (E : EV n h I I) (S : WSc I) : STEP 101 [.inr (.inl (some 1)), .inl s, vU, vU] 194 [.inr (.inl (some 94)), .inl s, vU] eA n h I :=
  STEP_mkx (c := fun J => coC J s) (v := fun J => eTx J J 0 98 (eTo J J 0)) (K := fun J => coK J s) (X := fun K => INV (n + 1) K) E S eA_i (fun J => by unfold coC; have := ic_r (p := s = 0 ∨ s = 1) (ic_r (p := bigD J) (x := 2) (by decide) (ic_r (p := eFull J J 0) (x := 3) (y := 0) (by decide) (by decide))) (y := 1) (by decide); omega) (fun J E => k101 E)
    (fun h2 I2 L V S => by
      obtain ⟨J, hJ⟩ : ∃ J, J = tH I2 0 := ⟨_, rfl⟩
      have g : AW I2 J := by rw [hJ]; exact AW_t (AW_r I2)
      have j49 : J 94 49 = 0 := by rw [hJ, tH_49]
      have bad : ∀ t : Int, AW J (tH I2 t) := fun t => AW_tr (AW_s g) (AW_t (AW_r I2))
      have hi : ∀ a, a ≠ 94 → J a = I2 a := fun a ha => by rw [hJ, tH_n ha]
      have SJ : WSc J := by rw [hJ]; exact WSc_t S
      rw [r194 (v2 := vU) L (iv_T V) (iv_D V), ← hJ]
      refine ⟨J, ?_⟩
      unfold coC coK
      dsimp only
      by_cases c1 : s = 0 ∨ s = 1
      · rw [if_pos c1, ic_t c1]
        by_cases c2 : bigD I2
        · rw [if_pos (show ∃ k, 0 ≤ k ∧ k < I2 94 5 ∧ 99 < I2 99 k from c2), aw_bigD g, ic_t c2, iP_f (fun q => q.2.1 c2)]
          exact ⟨_, _, g, rfl, tH_49, (fun q => absurd q (by decide)), fun a ha => tH_n (by omega), bad 2, id, WSc_t S⟩
        · rw [if_neg (show ¬∃ k, 0 ≤ k ∧ k < I2 94 5 ∧ 99 < I2 99 k from c2), aw_bigD g, ic_f c2]
          unfold tR
          by_cases c3 : eFull J J 0
          · rw [if_pos (show sm J 0 < 0 ∧ J 94 0 = 100 from c3), ic_t c3, iP_f (fun q => q.2.2 c3)]
            exact ⟨_, _, g, rfl, tH_49, (fun q => absurd q (by decide)), fun a ha => by rw [tH_n (by omega), hi a (by omega)], AW_t (AW_r J), id, WSc_t SJ⟩
          · rw [if_neg (show ¬(sm J 0 < 0 ∧ J 94 0 = 100) from c3), ic_f c3, iP_t ⟨c1, c2, c3⟩]
            obtain ⟨q1, q2, q3, q4, q5, q6⟩ := tW_q (s := s) (c := 0) dV_r j49
            exact ⟨_, _, g, rfl, by rw [q2 49 (by decide), eTt_5 (by decide), j49], fun _ => q6, fun a ha => by rw [q5 a (by omega), hi a (by omega)], tW_cl j49, id, WSc_cl SJ j49⟩
      · rw [if_neg c1, ic_f c1, iP_f (fun q => c1 q.1)]
        exact ⟨_, _, g, rfl, tH_49, (fun q => absurd q (by decide)), fun a ha => tH_n (by omega), bad 1, id, WSc_t S⟩)
-- folder
theorem aw_fB (g : AW I J) : fB J = fB I := by
  unfold fB fC
  rw [g.2 5 (by decide), g.1 99 (by decide) (by decide), aw_fnd g, g.1 95 (by decide) (by decide)]
theorem aw_fK (g : AW I J) : fK J = fK I := by
  unfold fK Kn
  rw [g.2 5 (by decide), g.1 99 (by decide) (by decide), aw_fnd g, aw_Th g, g.1 117 (by decide) (by decide)]
theorem k151 {v1 v2 v3 : MV} (E : EV n h I J) : Go 151 0 [.inr (.inl (some 1)), v1, v2, v3] [] (mI h I) = some (mI h I, .inl (some (.inl (b01 (fB J))))) := by
  obtain ⟨⟨d1, d2⟩, d3, d4⟩ := (ev_C E).2.1
  have L10 := ly_10 E.1
  have L0 := ly_0 E.1
  have V := ev_V E
  have R := iv_R V
  have hT := iv_t V
  have wd := iv_D V
  have w := wd.1
  rw [b151_0 L10 (by rw [d1]; exact w.1), d1]
  by_cases c2 : J 94 5 % 2 = 0
  rotate_left
  · rw [if_neg c2, b151_5, b01_f (fun q => c2 q.1)]
  rw [if_pos c2, b151_7]
  refine lpQ (fun i (x : Int × MV) => Go 151 11 [.inr (.inl (some 1)), .inl x.1, .inl (2 * i), x.2] [] (mI h I)) (fun i x => x.1 = (if i = 0 then -1 else J 99 (2 * i - 2)) ∧ ∀ j, 0 ≤ j → j < i → fC J (2 * j)) (fun r => r = some (mI h I, .inl (some (.inl (b01 (fB J)))))) 0 (J 94 5 / 2) (by omega) ?_ ?_ (-1, v3) ⟨rfl, fun j j0 j1 => by omega⟩
  · rintro i ⟨x, v⟩ i0 i1 ⟨hx, hq⟩
    dsimp only at hx hq ⊢
    have e2 := d2 (2 * i) (by omega) (by omega)
    have e3 := d2 (2 * i + 1) (by omega) (by omega)
    have g0 := wd.2 (2 * i) (by omega) (by omega)
    obtain ⟨z, hz⟩ : ∃ z, z = fnd J (J 99 (2 * i + 1)) := ⟨_, rfl⟩
    have fl := fnd_lt (I := J) (x := J 99 (2 * i + 1)) hT.1
    rw [← hz] at fl
    have no : ¬fC J (2 * i) → b01 (fB J) = 0 := fun q => b01_f (fun t => q (t.2 i i0 (by omega)))
    have stop : ∀ w : Int, ¬fC J (2 * i) → Go 151 47 [.inr (.inl (some 1)), .inl x, .inl (2 * i), .inl w] [] (mI h I) = some (mI h I, .inl (some (.inl (b01 (fB J))))) := fun w q => by rw [b151_47, no q]
    rw [b151_11 (by omega) L10, d1, if_neg (by omega), b151_17 L10 (by omega) (by omega) L0, e3, k2 L0 (ev_B E) R, caln_r, ← hz, b151_28 L0, k3 L0 (ev_B E) R, caln_r, b151_29 L10 (by omega), e2]
    by_cases c3 : J 99 (2 * i) ≤ x
    · left
      have n1 : ¬fC J (2 * i) := fun q => by
        by_cases iz : i = 0
        · rw [if_pos iz] at hx; omega
        · rw [if_neg iz] at hx
          have := q.2.1
          omega
      rw [if_pos c3, stop _ n1]
    rw [if_neg c3, b151_36 L10 (by omega), e2]
    by_cases c4 : 9 < J 99 (2 * i)
    · left
      rw [if_pos c4, stop _ (fun q => by have := q.1; omega)]
    rw [if_neg c4, b151_42]
    have go : 0 ≤ z → J 95 z < 2 → fC J (2 * i) := fun z0 z1 => ⟨by omega, by
      by_cases iz : i = 0
      · left; omega
      · right
        rw [if_neg iz] at hx
        omega, by rw [← hz]; exact z0, by rw [← hz]; exact z1⟩
    have nx : fC J (2 * i) → ∃ x1 : Int × MV, Go 151 49 [.inr (.inl (some 1)), .inl x, .inl (2 * i), .inl (kdO J z)] [] (mI h I) = Go 151 11 [.inr (.inl (some 1)), .inl x1.1, .inl (2 * (i + 1)), x1.2] [] (mI h I) ∧ x1.1 = (if i + 1 = 0 then -1 else J 99 (2 * (i + 1) - 2)) ∧ ∀ j, 0 ≤ j → j < i + 1 → fC J (2 * j) := fun q => by
      refine ⟨(J 99 (2 * i), .inl (kdO J z)), ?_, ?_, fun j j0 j1 => ?_⟩
      · rw [b151_49 L10 (by omega) (by omega), e2, show 2 * i + 2 = 2 * (i + 1) by omega]
      · dsimp only
        rw [if_neg (by omega), show 2 * (i + 1) - 2 = 2 * i by omega]
      · by_cases e : j = i
        · rw [e]; exact q
        · exact hq j j0 (by omega)
    by_cases z0 : 0 ≤ z
    · have wz := (R.1.2 z z0 fl.2.1).1
      rw [kdO_t ⟨z0, fl.2.1⟩] at nx ⊢
      by_cases k0 : J 95 z = 0
      · right
        rw [if_pos k0]
        exact nx (go z0 (by omega))
      rw [if_neg k0, b151_44]
      by_cases k1 : J 95 z = 1
      · right
        rw [if_pos k1]
        exact nx (go z0 (by omega))
      · left
        rw [if_neg k1, stop _ (fun q => by
          have := q.2.2.2
          rw [← hz] at this
          omega)]
    · left
      have kz : kdO J z = -1 := if_neg (fun q => z0 q.1)
      rw [kz, if_neg (by decide), b151_44, if_neg (by decide), stop _ (fun q => z0 (by rw [hz]; exact q.2.2.1))]
  · rintro ⟨x, v⟩ ⟨hx, hq⟩
    dsimp only
    rw [b151_11 (by omega) L10, d1, if_pos (by omega), b151_56, b01_t (p := fB J) ⟨c2, fun i i0 i1 => hq i i0 (by omega)⟩]
theorem k152 {s : Int} {v2 v3 : MV} (E : EV n h I J) (hs : s = 0 ∨ s = 1) (F : fB J) : Go 152 0 [.inr (.inl (some 1)), .inr (.inl (some ((sto s)))), v2, v3] [] (mI h I) = some (mI h I, .inl (some (.inl (b01 (fK J s))))) := by
  have st := sto_o (s := s)
  obtain ⟨⟨d1, d2⟩, d3, d4⟩ := (ev_C E).2.1
  have L10 := ly_10 E.1
  have L0 := ly_0 E.1
  have V := ev_V E
  have T := iv_T V
  have R := iv_R V
  have hT := iv_t V
  have wd := iv_D V
  have w := wd.1
  have c2 := F.1
  rw [b152_0]
  refine lpQ (fun i (x : MV) => Go 152 2 [.inr (.inl (some 1)), .inr (.inl (some ((sto s)))), .inl (2 * i + 1), x] [] (mI h I)) (fun i _ => ∀ j, 0 ≤ j → j < i → Kn J s (fnd J (J 99 (2 * j + 1)))) (fun r => r = some (mI h I, .inl (some (.inl (b01 (fK J s)))))) 0 (J 94 5 / 2) (by omega) ?_ ?_ v3 (fun j j0 j1 => by omega)
  · intro i x i0 i1 hq
    have e3 := d2 (2 * i + 1) (by omega) (by omega)
    have f1 := F.2 i i0 (by omega)
    have fl := fnd_lt (I := J) (x := J 99 (2 * i + 1)) hT.1
    have z0 := f1.2.2.1
    rw [b152_2 L10, d1, if_neg (by omega), b152_6 L10 (by omega) L0, e3, k2 L0 (ev_B E) R, caln_r, b152_13, if_neg (by omega), b152_17 (ly_8 E.1 st) (ly_3 E.1 st), k39 (ly_3 E.1 st) (ly_4 E.1 st) (ev_s E hs).1 (iv_M V) T.2.2.2.1 T.2.1 hs ⟨z0, by omega⟩, caln_r, b152_21]
    by_cases c : J 117 (120 * s + fnd J (J 99 (2 * i + 1))) ≠ 0 ∨ Th J s (fnd J (J 99 (2 * i + 1)))
    · right
      refine ⟨_, by rw [b01_t c, if_pos (by decide), b152_24 (by omega), show 2 * i + 1 + 2 = 2 * (i + 1) + 1 by omega], fun j j0 j1 => ?_⟩
      by_cases e : j = i
      · rw [e]; exact c.elim Or.inr Or.inl
      · exact hq j j0 (by omega)
    · left
      rw [b01_f c, if_neg (fun q => q rfl), b152_22, b01_f (fun q => c ((q i i0 (by omega)).elim Or.inr Or.inl))]
  · intro x hq
    rw [b152_2 L10, d1, if_pos (by omega), b152_26, b01_t (p := fK J s) (fun i i0 i1 => hq i i0 (by omega))]
noncomputable def foC (J : Nat → Int → Int) (s : Int) : Int := ic (s = 0 ∨ s = 1) (ic (fB J) (ic (fK J s) (ic (eFull J J 1) 3 0) 3) 2) 1
noncomputable def foK (J : Nat → Int → Int) (s : Int) : Nat → Int → Int := iP ((s = 0 ∨ s = 1) ∧ fB J ∧ fK J s ∧ ¬eFull J J 1) (clK (eTt J J s 1)) J
theorem k102 {s : Int} {v2 v3 : MV} (E : EV n h I J) : ∃ h1 I1, Go 102 0 [.inr (.inl (some 1)), .inl s, v2, v3] [] (mI h I) = some (mI h1 I1, oc eA (foC J s) (eTx J J 1 98 (eTo J J 1))) ∧ RS h I h1 I1 (foK J s) ∧ INV (n + 1) (foK J s) := by
  have L10 := ly_10 E.1
  have V := ev_V E
  obtain ⟨⟨d1, d2⟩, d3, d4⟩ := (ev_C E).2.1
  have wd := iv_D V
  unfold foC foK
  by_cases hs : s = 0 ∨ s = 1
  rotate_left
  · rw [ic_f hs, iP_f (fun q => hs q.1)]
    exact ⟨hThr h, I, by rw [b102_0 L10, k142x hs, caln_x]; rfl, RS_x E, INV_s V⟩
  rw [b102_0 L10, k142 E.1 hs, caln_r, b102_3 L10, k151 E, caln_r, b102_6, ic_t hs]
  by_cases c : fB J
  rotate_left
  · rw [b01_f c, if_neg (fun q => q rfl), b102_7, ic_f c, iP_f (fun q => c q.2.1)]
    exact ⟨hThr h, I, rfl, RS_x E, INV_s V⟩
  rw [b01_t c, if_pos (by decide), b102_8 L10, k152 E hs c, caln_r, b102_11, ic_t c]
  by_cases c3 : fK J s
  rotate_left
  · rw [b01_f c3, if_neg (fun q => q rfl), b102_12, ic_f c3, iP_f (fun q => c3 q.2.2.1)]
    exact ⟨hThr h, I, rfl, RS_x E, INV_s V⟩
  rw [b01_t c3, if_pos (by decide), b102_13 L10, d1, ic_t c3]
  have odd : ∀ j, 0 ≤ j → j < J 94 5 → j % 2 = 1 → fC J (j - 1) ∧ j - 1 + 1 = j := fun j j0 j1 q => by
    have := c.2 (j / 2) (by omega) (by omega)
    rw [show 2 * (j / 2) = j - 1 by omega] at this
    exact ⟨this, by omega⟩
  have N : NB J 1 := ⟨by decide, wd.1, ⟨fun _ => c.1, fun q => absurd q (by decide), fun q => absurd q (by decide)⟩, wd.2, fun j j0 j1 q => by
    obtain ⟨q1, q2⟩ := odd j j0 j1 (by omega)
    have := q1.2.2.1
    rw [q2] at this
    exact this⟩
  have B : VB J 1 := fun j j0 j1 => ⟨fun _ q => by
    obtain ⟨q1, q2⟩ := odd j j0 j1 q
    have := q1.2.2.2
    rw [q2] at this
    exact this, fun q => absurd q (by decide), fun q => absurd q (by decide), fun q => absurd q (by decide)⟩
  obtain ⟨p1, p2⟩ := k153 (b := 92) (v5 := vU) E hs dV_r wd N B (LX_k L10 9 false 91 0 12 rfl) (by decide) d2
  by_cases f : eFull J J 1
  · rw [p1 f, caln_x, ic_t f, iP_f (fun q => q.2.2.2 f)]
    exact ⟨hThr h, I, rfl, RS_x E, INV_s V⟩
  · obtain ⟨I1, e1, E1, f1⟩ := p2 f
    rw [e1, caln_r, b102_21 L10, ic_f f, iP_t ⟨hs, c, c3, f⟩]
    exact ⟨h, _, rfl, RS_tr (I0 := I1) (fun a a0 a1 => f1 a (by omega) a1) (RS_cl E1), INV_cl (ev_V E1)⟩
theorem s102 {s : Int} (E : EV n h I I) (S : WSc I) : STEP 102 [.inr (.inl (some 1)), .inl s, vU, vU] 196 [.inr (.inl (some 94)), .inl s, vU, vU] eA n h I :=
  STEP_mkx (c := fun J => foC J s) (v := fun J => eTx J J 1 98 (eTo J J 1)) (K := fun J => foK J s) (X := fun K => INV (n + 1) K) E S eA_i (fun J => by unfold foC; have := ic_r (p := s = 0 ∨ s = 1) (ic_r (p := fB J) (ic_r (p := fK J s) (ic_r (p := eFull J J 1) (x := 3) (y := 0) (by decide) (by decide)) (y := 3) (by decide)) (y := 2) (by decide)) (y := 1) (by decide); omega) (fun J E => k102 E)
    (fun h2 I2 L V S => by
      obtain ⟨J, hJ⟩ : ∃ J, J = tH I2 0 := ⟨_, rfl⟩
      have g : AW I2 J := by rw [hJ]; exact AW_t (AW_r I2)
      have j49 : J 94 49 = 0 := by rw [hJ, tH_49]
      have bad : ∀ t : Int, AW J (tH I2 t) := fun t => AW_tr (AW_s g) (AW_t (AW_r I2))
      have hi : ∀ a, a ≠ 94 → J a = I2 a := fun a ha => by rw [hJ, tH_n ha]
      have SJ : WSc J := by rw [hJ]; exact WSc_t S
      rw [r196 (v2 := vU) (v3 := vU) L (iv_T V) (iv_D V), ← hJ]
      refine ⟨J, ?_⟩
      unfold foC foK
      dsimp only
      rw [aw_fB g, aw_fK g]
      by_cases c1 : s = 0 ∨ s = 1
      · rw [if_pos c1, ic_t c1]
        by_cases c2 : fB I2
        · rw [if_pos c2, ic_t c2]
          by_cases c4 : fK I2 s
          · rw [if_pos c4, ic_t c4]
            unfold tR
            by_cases c3 : eFull J J 1
            · rw [if_pos (show sm J 1 < 0 ∧ J 94 0 = 100 from c3), ic_t c3, iP_f (fun q => q.2.2.2 c3)]
              exact ⟨_, _, g, rfl, tH_49, (fun q => absurd q (by decide)), fun a ha => by rw [tH_n (by omega), hi a (by omega)], AW_t (AW_r J), id, WSc_t SJ⟩
            · rw [if_neg (show ¬(sm J 1 < 0 ∧ J 94 0 = 100) from c3), ic_f c3, iP_t ⟨c1, c2, c4, c3⟩]
              obtain ⟨q1, q2, q3, q4, q5, q6⟩ := tW_q (s := s) (c := 1) dV_r j49
              exact ⟨_, _, g, rfl, by rw [q2 49 (by decide), eTt_5 (by decide), j49], fun _ => q6, fun a ha => by rw [q5 a (by omega), hi a (by omega)], tW_cl j49, id, WSc_cl SJ j49⟩
          · rw [if_neg c4, ic_f c4, iP_f (fun q => c4 q.2.2.1)]
            exact ⟨_, _, g, rfl, tH_49, (fun q => absurd q (by decide)), fun a ha => tH_n (by omega), bad 3, id, WSc_t S⟩
        · rw [if_neg c2, ic_f c2, iP_f (fun q => c2 q.2.1)]
          exact ⟨_, _, g, rfl, tH_49, (fun q => absurd q (by decide)), fun a ha => tH_n (by omega), bad 2, id, WSc_t S⟩
      · rw [if_neg c1, ic_f c1, iP_f (fun q => c1 q.1)]
        exact ⟨_, _, g, rfl, tH_49, (fun q => absurd q (by decide)), fun a ha => tH_n (by omega), bad 1, id, WSc_t S⟩)
end OPS20
