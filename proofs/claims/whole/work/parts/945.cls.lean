/-! ===== the calls (28): version and tag as steps ===== -/
section OPS22
variable {n m : Int} {h h1 : HP} {I I1 J K M D X Y : Nat → Int → Int}
theorem aw_v1 (g : AW I J) : v1 J = v1 I := by
  unfold v1
  rw [aw_fnd g]
theorem aw_v2 (g : AW I J) : v2 J = v2 I := by
  unfold v2
  rw [aw_kI g]
theorem aw_v3 (g : AW I J) : v3 J = v3 I := by
  unfold v3
  rw [aw_Th g, aw_fnd g]
theorem WSc_hi (S : WSc J) (q : ∀ a, a < 94 ∨ 132 < a → K a = J a) : WSc K := fun a a0 a1 => by
  rw [q a (by omega)]
  exact S a a0 a1
theorem s103 {s f d one oth : Int} (E : EV n h I I) (S : WSc I) : STEP 103 [.inr (.inl (some 1)), .inl s, .inl f, .inl d, .inl one, .inl oth, vU, vU, vU, vU] 199 [.inr (.inl (some 94)), .inl s, .inl f, .inl d, .inl one, .inl oth, vU, vU] eA n h I :=
  STEP_mkx (c := fun J => veC J s f d one oth) (v := fun J => eTx J (vD J f d one oth) 2 98 (eTo J (vD J f d one oth) 2)) (K := fun J => veK J s f d one oth) (X := fun K => INV (n + 1) K) E S eA_i (fun J => by unfold veC; have := ic_r (p := v1 J s f one oth) (ic_r (p := v2 J f d one oth) (ic_r (p := v3 J s f one oth) (ic_r (p := eFull J (vD J f d one oth) 2) (x := 3) (y := 0) (by decide) (by decide)) (y := 3) (by decide)) (y := 2) (by decide)) (y := 1) (by decide); omega) (fun J E => k103 E)
    (fun h2 I2 L V S => by
      obtain ⟨J, hJ⟩ : ∃ J, J = tH I2 0 := ⟨_, rfl⟩
      have g : AW I2 J := by rw [hJ]; exact AW_t (AW_r I2)
      have j49 : J 94 49 = 0 := by rw [hJ, tH_49]
      have bad : ∀ t : Int, AW J (tH I2 t) := fun t => AW_tr (AW_s g) (AW_t (AW_r I2))
      have hi : ∀ a, a ≠ 94 → J a = I2 a := fun a ha => by rw [hJ, tH_n ha]
      have SJ : WSc J := by rw [hJ]; exact WSc_t S
      rw [r199 (w6 := vU) (w7 := vU) L (iv_T V) (iv_X V), ← hJ]
      refine ⟨J, ?_⟩
      have eB : tB h2 (vB J f d one oth) s 2 (if one = -1 then 2 else if oth = -1 then 3 else 4) = tB h2 (rowU J 100 (g4 (J 100) f d one oth)) s 2 (vN one oth) := rfl
      obtain ⟨p1, p2⟩ := tB_q (h := h2) (g := g4 (J 100) f d one oth) (s := s) (c := 2) (k := vN one oth) j49
      rw [eB]
      unfold veC veK
      dsimp only
      rw [aw_v1 g, aw_v2 g, aw_v3 g]
      by_cases c1 : v1 I2 s f one oth
      · rw [if_pos c1, ic_t c1]
        by_cases c2 : v2 I2 f d one oth
        · rw [if_pos c2, ic_t c2]
          by_cases c3 : v3 I2 s f one oth
          · have ok : vOK J s f d one oth := by
              unfold vOK
              rw [aw_v1 g, aw_v2 g, aw_v3 g]
              exact ⟨c1, c2, c3⟩
            rw [if_pos c3, ic_t c3, iP_t ok]
            by_cases fu : eFull J (vD J f d one oth) 2
            · obtain ⟨Z, e, z49, zf, zg⟩ := p1 fu
              rw [e, ic_t fu, iP_t fu]
              exact ⟨Z, _, g, rfl, z49, (fun q => absurd q (by decide)), fun a ha => by rw [zf a (by omega), hi a (by omega)], zg, id, WSc_hi SJ zf⟩
            · obtain ⟨Z, e, z49, zf, zg⟩ := p2 fu
              rw [e, ic_f fu, iP_f fu]
              exact ⟨Z, _, g, rfl, z49, fun _ => rfl, fun a ha => by rw [zf a (by omega), hi a (by omega)], zg, id, WSc_hi SJ zf⟩
          · rw [if_neg c3, ic_f c3, iP_f (fun q => c3 (by rw [← aw_v3 g]; exact q.2.2))]
            exact ⟨_, _, g, rfl, tH_49, (fun q => absurd q (by decide)), fun a ha => tH_n (by omega), bad 3, id, WSc_t S⟩
        · rw [if_neg c2, ic_f c2, iP_f (fun q => c2 (by rw [← aw_v2 g]; exact q.2.1))]
          exact ⟨_, _, g, rfl, tH_49, (fun q => absurd q (by decide)), fun a ha => tH_n (by omega), bad 2, id, WSc_t S⟩
      · rw [if_neg c1, ic_f c1, iP_f (fun q => c1 (by rw [← aw_v1 g]; exact q.1))]
        exact ⟨_, _, g, rfl, tH_49, (fun q => absurd q (by decide)), fun a ha => tH_n (by omega), bad 1, id, WSc_t S⟩)
-- tag
noncomputable def gD (J : Nat → Int → Int) (x : Int) : Nat → Int → Int := dW J (up1 (J 100) 0 x) 1
noncomputable def taC (J : Nat → Int → Int) (s x : Int) : Int := ic ((s = 0 ∨ s = 1) ∧ 0 ≤ fnd J x) (ic (kI J x 2) (ic (Th J s (fnd J x)) (ic (eFull J (gD J x) 3) 3 0) 3) 2) 1
noncomputable def taK (J : Nat → Int → Int) (s x : Int) : Nat → Int → Int := iP (((s = 0 ∨ s = 1) ∧ 0 ≤ fnd J x) ∧ kI J x 2 ∧ Th J s (fnd J x)) (rowU (iP (eFull J (gD J x) 3) J (eTt J (gD J x) s 3)) 100 (gD J x 100)) J
theorem k104 {s x : Int} {w3 w4 : MV} (E : EV n h I J) : ∃ h1 I1, Go 104 0 [.inr (.inl (some 1)), .inl s, .inl x, w3, w4] [] (mI h I) = some (mI h1 I1, oc eA (taC J s x) (eTx J (gD J x) 3 98 (eTo J (gD J x) 3))) ∧ RS h I h1 I1 (taK J s x) ∧ INV (n + 1) (taK J s x) := by
  have L10 := ly_10 E.1
  have L0 := ly_0 E.1
  have V := ev_V E
  have R := iv_R V
  have T := iv_T V
  have hT := iv_t V
  unfold taC taK
  by_cases hs : s = 0 ∨ s = 1
  rotate_left
  · rw [ic_f (fun q => hs q.1), iP_f (fun q => hs q.1.1)]
    exact ⟨hThr h, I, by rw [b104_0 L10, k142x hs, caln_x]; rfl, RS_x E, INV_s V⟩
  by_cases hx : 0 ≤ fnd J x
  rotate_left
  · rw [ic_f (fun q => hx q.2), iP_f (fun q => hx q.1.2)]
    exact ⟨hThr h, I, by rw [b104_0 L10, k142 E.1 hs, caln_r, b104_3 L10, k144x E hx, caln_x]; rfl, RS_x E, INV_s V⟩
  have st := sto_o (s := s)
  have fr := fr_t V hx
  rw [ic_t ⟨hs, hx⟩, b104_0 L10, k142 E.1 hs, caln_r, b104_3 L10, k144 E hx, caln_r, b104_7 L10 L0, k3 L0 (ev_B E) R, caln_r, b104_12, kdO_t fr]
  by_cases c2 : kI J x 2
  rotate_left
  · rw [if_neg (fun q => c2 ⟨hx, q⟩), b104_14, ic_f c2, iP_f (fun q => c2 q.2.1)]
    exact ⟨hThr h, I, rfl, RS_x E, INV_s V⟩
  rw [if_pos c2.2, b104_15 (ly_8 E.1 st) (ly_3 E.1 st), k37 (ly_3 E.1 st) (ev_s E hs).1 (iv_M V) T.2.2.2.1 T.2.1 hs (by omega), caln_r, b104_19, ic_t c2]
  by_cases c3 : Th J s (fnd J x)
  rotate_left
  · rw [b01_f c3, if_neg (fun q => q rfl), b104_20, ic_f c3, iP_f (fun q => c3 q.2.2)]
    exact ⟨hThr h, I, rfl, RS_x E, INV_s V⟩
  rw [b01_t c3, if_pos (by decide), b104_21 L10, ic_t c3, iP_t ⟨⟨hs, hx⟩, c2, c3⟩]
  have one : ∀ j : Int, 0 ≤ j → j < 1 → j = 0 := fun j j0 j1 => by omega
  obtain ⟨p1, p2⟩ := tell_W (g := up1 (J 100) 0 x) (k := 1) (c := 3) (A := zu2 I 93 0 x) (v5 := vU) E hs (fun a ha => by rw [zu2_row, rowU_ne ha]) (fun j j0 j1 => by rw [one j j0 j1, zu2_row, rowU_eq, up1_eq, up1_eq]) (by decide) (by decide) ⟨fun q => absurd q (by decide), fun q => absurd q (by decide), fun _ => rfl⟩ (fun j j0 j1 => by rw [one j j0 j1, up1_eq]; exact WX_b (iv_X V) hT.1 hx) (fun j j0 j1 _ => by rw [one j j0 j1, up1_eq]; exact hx) (fun j j0 j1 => ⟨fun q => absurd q (by decide), fun q => absurd q (by decide), fun q => absurd q (by decide), fun _ => by rw [one j j0 j1, up1_eq]; exact c2.2⟩)
  by_cases fu : eFull J (gD J x) 3
  · obtain ⟨e, r, iv⟩ := p1 fu
    rw [e, caln_x, ic_t fu, iP_t fu]
    exact ⟨hThr h, _, rfl, r, iv⟩
  · obtain ⟨I1, e, r, iv⟩ := p2 fu
    rw [e, caln_r, b104_33, ic_f fu, iP_f fu]
    exact ⟨h, I1, rfl, r, iv⟩
theorem s104 {s x : Int} (E : EV n h I I) (S : WSc I) : STEP 104 [.inr (.inl (some 1)), .inl s, .inl x, vU, vU] 200 [.inr (.inl (some 94)), .inl s, .inl x] eA n h I :=
  STEP_mkx (c := fun J => taC J s x) (v := fun J => eTx J (gD J x) 3 98 (eTo J (gD J x) 3)) (K := fun J => taK J s x) (X := fun K => INV (n + 1) K) E S eA_i (fun J => by unfold taC; have := ic_r (p := (s = 0 ∨ s = 1) ∧ 0 ≤ fnd J x) (ic_r (p := kI J x 2) (ic_r (p := Th J s (fnd J x)) (ic_r (p := eFull J (gD J x) 3) (x := 3) (y := 0) (by decide) (by decide)) (y := 3) (by decide)) (y := 2) (by decide)) (y := 1) (by decide); omega) (fun J E => k104 E)
    (fun h2 I2 L V S => by
      obtain ⟨J, hJ⟩ : ∃ J, J = tH I2 0 := ⟨_, rfl⟩
      have g : AW I2 J := by rw [hJ]; exact AW_t (AW_r I2)
      have j49 : J 94 49 = 0 := by rw [hJ, tH_49]
      have bad : ∀ t : Int, AW J (tH I2 t) := fun t => AW_tr (AW_s g) (AW_t (AW_r I2))
      have hi : ∀ a, a ≠ 94 → J a = I2 a := fun a ha => by rw [hJ, tH_n ha]
      have SJ : WSc J := by rw [hJ]; exact WSc_t S
      rw [r200 L (iv_T V) (iv_X V), ← hJ]
      refine ⟨J, ?_⟩
      have eB : tB h2 (tgB J x) s 3 1 = tB h2 (rowU J 100 (up1 (J 100) 0 x)) s 3 1 := rfl
      obtain ⟨p1, p2⟩ := tB_q (h := h2) (g := up1 (J 100) 0 x) (s := s) (c := 3) (k := 1) j49
      rw [eB]
      unfold taC taK
      dsimp only
      rw [aw_fnd g, aw_kI g, aw_Th g]
      by_cases c1 : (s = 0 ∨ s = 1) ∧ 0 ≤ fnd I2 x
      · rw [if_pos c1, ic_t c1]
        by_cases c2 : kI I2 x 2
        · rw [if_pos c2, ic_t c2]
          by_cases c3 : Th I2 s (fnd I2 x)
          · rw [if_pos c3, ic_t c3, iP_t ⟨c1, c2, c3⟩]
            by_cases fu : eFull J (gD J x) 3
            · obtain ⟨Z, e, z49, zf, zg⟩ := p1 fu
              rw [e, ic_t fu, iP_t fu]
              exact ⟨Z, _, g, rfl, z49, (fun q => absurd q (by decide)), fun a ha => by rw [zf a (by omega), hi a (by omega)], zg, id, WSc_hi SJ zf⟩
            · obtain ⟨Z, e, z49, zf, zg⟩ := p2 fu
              rw [e, ic_f fu, iP_f fu]
              exact ⟨Z, _, g, rfl, z49, fun _ => rfl, fun a ha => by rw [zf a (by omega), hi a (by omega)], zg, id, WSc_hi SJ zf⟩
          · rw [if_neg c3, ic_f c3, iP_f (fun q => c3 q.2.2)]
            exact ⟨_, _, g, rfl, tH_49, (fun q => absurd q (by decide)), fun a ha => tH_n (by omega), bad 3, id, WSc_t S⟩
        · rw [if_neg c2, ic_f c2, iP_f (fun q => c2 q.2.1)]
          exact ⟨_, _, g, rfl, tH_49, (fun q => absurd q (by decide)), fun a ha => tH_n (by omega), bad 2, id, WSc_t S⟩
      · rw [if_neg c1, ic_f c1, iP_f (fun q => c1 q.1)]
        exact ⟨_, _, g, rfl, tH_49, (fun q => absurd q (by decide)), fun a ha => tH_n (by omega), bad 1, id, WSc_t S⟩)
end OPS22
