/-! ===== the calls (17): a pack: what the class makes; pack ===== -/
section OPS11
variable {n m : Int} {h h1 : HP} {I I1 J K M D : Nat → Int → Int}
theorem EV_cr (E : EV n h I J) (hI : ∀ c, c < 75 ∨ c = 76 ∨ c = 80 ∨ c = 86 ∨ c = 88 ∨ c = 92 ∨ 93 < c → I1 c = I c) (C2 : CR I1 J) : EV n h I1 J := by
  have C := ev_C E
  refine ⟨E.1, E.2.1, ⟨?_, ?_, ⟨?_, ?_⟩, ?_, C2⟩, E.2.2.2⟩
  · rw [BC_I (I := I) (fun c hc => hI c (by omega))]; exact C.1
  · unfold CD
    rw [hI 1 (by decide), hI 92 (by decide)]
    exact C.2.1
  · exact CS_I E.2.1 (Or.inl rfl) (fun c hc => hI c (by omega)) C.2.2.1.1
  · exact CS_I E.2.1 (Or.inr rfl) (fun c hc => hI c (by omega)) C.2.2.1.2
  · unfold CWl
    rw [hI 76 (by decide), hI 80 (by decide)]
    exact C.2.2.2.1
theorem KO_M {s : Int} : KO (pkM J s) = KO J := by
  obtain ⟨r8, r11, rf⟩ := pkM_r (J := J) (s := s)
  unfold KO
  rw [rf 95 (by decide) (by decide), rf 96 (by decide) (by decide), rf 98 (by decide) (by decide)]
theorem pk_1 {s win deep t : Int} {rp ro : Nat} {P Of : Int → Prop} {v2 v6 v7 : MV} (E : EV n h I J) (hs : s = 0 ∨ s = 1) (hm : J 108 s < 20) (h6 : J 136 = ind P) (hP : ∀ j, P j → 0 ≤ j ∧ j < J 94 0) (hd : t ≠ 0 → ∀ z, J 135 z ≠ 0 → ¬P z) (hw : 0 ≤ win ∧ win ≤ 100) (hrp : 84 ≤ rp ∧ rp ≤ 91) (hro : 84 ≤ ro ∧ ro ≤ 91) (Lp : hK h rp = (1, 100)) (Lr : hK h ro = (1, 100)) (e1 : I rp = ind P) (e2 : I ro = ind Of) (hO : OfR (pkM J s) (20 * s + J 108 s) deep t Of) :
    ∃ h1 I1 I2, Go 64 0 [.inr (.inl (some 81)), .inr (.inl (some ((hN h)))), .inr (.inl (some rp)), .inr (.inl (some ro)), .inl win, .inl deep, v6, v7] [] (mI (nuP h) (nwP I (hN h))) = some (mI (nuP h) I2, .inl none) ∧ Go 42 0 [.inr (.inl (some ((sto s + 1)))), .inr (.inl (some ((hN h)))), v2] [] (mI (nuP h) I2) = some (mI h1 I1, .inl (some (.inl (J 108 s)))) ∧
      RS h I h1 I1 (pkF J (enm J) (eKO J P) s win deep t) ∧ RD2 (pkF J (enm J) (eKO J P) s win deep t) ∧ EV n h1 I1 (pkF J (enm J) (eKO J P) s win deep t) ∧ XT h h1 6 507 ∧ ∀ c, 83 ≤ c → c ≤ 139 → I1 c = I c := by
  have st := sto_o (s := s)
  have V := ev_V E
  have T := iv_T V
  have hT := iv_t V
  have hms := T.2.2.2.1.1 s hs
  have O := E.2.1
  have n140 := O.1
  have X0 := nuP_X h
  have Y0 := LYB_X X0 E.1
  obtain ⟨r8, r11, rf⟩ := pkM_r (J := J) (s := s)
  obtain ⟨G, eX, GX, OX⟩ := pk_G (win := win) (deep := deep) (t := t) V hs hm h6 hP hd
  obtain ⟨VK, SK, TX, OPX, x8⟩ := IVX_pk (win := win) (deep := deep) (t := t) V hs hm h6 hP hd
  obtain ⟨a, ha⟩ : ∃ a, a = hN h := ⟨_, rfl⟩
  have m11 : pkM J s 111 (20 * s + J 108 s) = 0 := by rw [r11, up1_eq]
  have C0 : PC (nuP h) (nwP I (hN h)) (pkM J s) (hN h) (20 * s + J 108 s) := nwP_C m11 n140
  have B0 : BC (nwP I (hN h)) (pkM J s) := by
    rw [BC_J (J := J) (by rw [rf 94 (by decide) (by decide)]) (rf 95 (by decide) (by decide)) (rf 96 (by decide) (by decide)) (rf 97 (by decide) (by decide)) (rf 98 (by decide) (by decide)), BC_I (I := I) (fun c hc => nwP_f (by omega))]
    exact ev_B E
  have R0 : RB (pkM J s) := by
    rw [RB_J (J := J) (by rw [rf 94 (by decide) (by decide)]) (rf 95 (by decide) (by decide)) (rf 96 (by decide) (by decide)) (rf 97 (by decide) (by decide)) (rf 98 (by decide) (by decide))]
    exact iv_R V
  have m94 : pkM J s 94 0 = J 94 0 := by rw [rf 94 (by decide) (by decide)]
  have h9 : pkM J s 109 (20 * s + J 108 s) = 0 := by
    rw [rf 109 (by decide) (by decide)]
    exact (iv_M V s (J 108 s) hs (Int.le_refl _) hm).1
  have Lp0 : hK (nuP h) rp = (1, 100) := by rw [(X0.2.1 rp (by omega)).1]; exact Lp
  have Lr0 : hK (nuP h) ro = (1, 100) := by rw [(X0.2.1 ro (by omega)).1]; exact Lr
  obtain ⟨f, I2, En, g64, f64, g81, C1⟩ := k64 (h := nuP h) (I := nwP I (hN h)) (M := pkM J s) (a := hN h) (rp := rp) (ro := ro) (p := 20 * s + J 108 s) (win := win) (deep := deep) (t := t) (P := P) (Of := Of) (v6 := v6) (v7 := v7) (ly_0 Y0) (ly_81 Y0) Lp0 Lr0 B0 R0 C0 G (by omega) h9 hw (by rw [nwP_f (by omega)]; exact e1) (by rw [nwP_f (by omega)]; exact e2) (by omega) (by omega) (by rw [m94]; exact hP) hO (by rw [rf 135 (by decide) (by decide)]; exact hd)
  rw [KO_M, m94] at En
  have c0 := cN_b (P := P) (J 94 0).toNat
  have uq := Enum_u (TO_KO (iv_N V) hP) En (eKO_s (iv_N V) hT.1 hP) c0.1 c0.1
  have nq : ∀ i, 0 ≤ i → i < J 94 0 → nwP I (hN h) 9 i = enm J i := (Enum_u (TO_nm (iv_N V) (fun _ q => q)) (by
    have q := (ev_B E).2.2
    rw [← nwP_f (I := I) (n := hN h) (c := 9) (by omega)] at q
    exact q) (enm_s V) hT.1 hT.1).2
  have eP : PA (pkM J s) (nwP I (hN h) 9) (20 * s + J 108 s) win deep t f (cN P (pkM J s 94 0).toNat).toNat = pkX J (enm J) (eKO J P) s win deep t := by
    rw [eX, m94, PA_e (b := enm J) (by rw [m94]; exact hT.1) (by rw [m94]; exact nq), PA_c (f := eKO J P) _ (fun i i0 i1 => uq.2 i i0 (by omega))]
  rw [eP] at C1
  have i2 : ∀ c, c < hN h → c ≠ 81 → c ≠ 82 → I2 c = I c := fun c hc h1 h2 => by rw [f64 c (by omega) h1 h2, nwP_f (by omega)]
  have O0 : OWN (nuP h) := OWN_X O X0 (fun x k hx => nuP_R h x k (by unfold OAr at hx; omega))
  have F : ∀ y j b, OAr y → hR (nuP h) y j = some b → b + owz y < hN h := fun y j b hy hb => by
    rw [nuP_R h y j (by unfold OAr at hy; omega)] at hb
    have := (O.2.1 y j b hy hb).1
    omega
  have z3 : owz (sto s + 1 + 3) = 5 := if_pos (by omega)
  have z19 : owz (sto s + 1 + 19) = 4 := if_neg (by omega)
  have o3 : OAr (sto s + 1 + 3) := by unfold OAr; omega
  have o19 : OAr (sto s + 1 + 19) := by unfold OAr; omega
  have D0 : DN (nuP h) I2 J (sto s + 1) s := DNk_h (n := J 104 s) O X0 (by omega) (fun p => nuP_R h _ p (by omega)) (fun i _ _ => nuP_R h _ i (by omega)) (fun c hc => i2 c (by omega) (by omega) (by omega)) (fun p b hb c c0 c1 => by
    have := (O.2.1 _ p b o3 hb).1
    rw [z3] at this
    exact i2 c (by omega) (by omega) (by omega)) (fun i b _ _ hb c c0 c1 => by
    have := (O.2.1 _ i b o19 hb).1
    rw [z19] at this
    exact i2 c (by omega) (by omega) (by omega)) (DC_n.mp (ev_s E hs).1).1
  obtain ⟨h1, I1, g42, D1, R1, O1, X1, r1, f42⟩ := k42 (h := nuP h) (I := I2) (J := J) (X := pkX J (enm J) (eKO J P) s win deep t) (d := sto s + 1) (a := hN h) (s := s) (v2 := v2) (by omega) (ly_S Y0) (ly_3 Y0 st) (ly_4k Y0 st) O0 D0 (iv_Q V) T (iv_Z V) (iv_RD V hs) hs hm TX (fun c c0 c1 c2 c3 => pkX_f (by omega)) OPX C1 F x8
  have eK : rowU (dO (pkX J (enm J) (eKO J P) s win deep t) s 1 (20 * s + J 108 s)) 109 (up1 (J 109) (20 * s + J 108 s) 1) = pkF J (enm J) (eKO J P) s win deep t := rfl
  rw [eK] at D1 R1
  have i1 : ∀ c, c < hN h → (c < sto s + 1 ∨ sto s + 1 + 19 < c ∨ (sto s + 1 + 6 ≤ c ∧ c ≤ sto s + 1 + 10)) → c ≠ 81 → c ≠ 82 → I1 c = I c := fun c hc h0 h1 h2 => by rw [f42 c h0, i2 c hc h1 h2]
  obtain ⟨Ib, hIb⟩ : ∃ Ib, Ib = rowU (rowU I 81 (I1 81)) 82 (I1 82) := ⟨_, rfl⟩
  have ib : ∀ c, c ≠ 81 → c ≠ 82 → Ib c = I c := fun c c1 c2 => by rw [hIb, rowU_ne c2, rowU_ne c1]
  have Eb : EV n h Ib J := EV_fr E (fun c _ c1 c2 _ _ _ => ib c c1 c2)
  have X2 : XT h h1 6 507 := XT_w (XT_t X0 X1) (by decide) (by decide)
  have fK : ∀ a, (a < 101 ∨ (114 < a ∧ a < 120) ∨ 122 < a) ∧ a ≠ 136 → pkF J (enm J) (eKO J P) s win deep t a = J a := fun a ha => pkF_f ha
  have Sb := ev_s Eb hs
  have CSd : CS h1 I1 (pkF J (enm J) (eKO J P) s win deep t) (sto s) s := CS_d Sb D1 (fun a ha => fK a (by omega)) (fun c hc => by rw [ib c (by omega) (by omega), i1 c (by omega) (by omega) (by omega) (by omega)])
  have RS1 : RS h Ib h1 I1 (pkF J (enm J) (eKO J P) s win deep t) := RS_nt Eb hs (fun a ha => fK a (by omega)) (SK (1 - s) (by omega) (by omega)) CSd X2 (by decide) (by decide) O1 (fun x k ox h4 h20 => by rw [r1 x k ox h4, nuP_R h x k (by unfold OAr at ox; omega)]) (fun c hc hN _ => by
    by_cases c1 : c = 81
    · subst c1; rw [hIb, rowU_ne (by decide), rowU_eq]
    · by_cases c2 : c = 82
      · subst c2; rw [hIb, rowU_eq]
      · rw [ib c c1 c2, i1 c hN (by omega) c1 c2])
  have XR := RD2_of V hs (SK (1 - s) (by omega) (by omega)) R1
  refine ⟨h1, I1, I2, g64, g42, RS_tr (I0 := Ib) (fun c c0 c1 => ib c (by omega) (by omega)) RS1, XR, ⟨LYB_X X2 E.1, O1, RS1.2.2.1, INV_of VK XR.1 XR.2⟩, X2, fun c c0 c1 => i1 c (by omega) (by omega) (by omega) (by omega)⟩
-- pack
def pkW (win deep : Int) : Prop := (0 ≤ win ∧ win ≤ 8) ∧ 0 ≤ deep ∧ deep ≤ 8
noncomputable def paC (J : Nat → Int → Int) (s win deep : Int) : Int := ic (s = 0 ∨ s = 1) (ic (pkW win deep) (ic (pkN J s = 0) 0 (ic (J 108 s ≠ 20) 0 3)) 2) 1
noncomputable def paV (J : Nat → Int → Int) (s : Int) : Int := if pkN J s = 0 then -1 else J 108 s
def paP (J : Nat → Int → Int) (s win deep : Int) : Prop := (s = 0 ∨ s = 1) ∧ pkW win deep ∧ pkN J s ≠ 0 ∧ J 108 s ≠ 20
noncomputable def paK (J : Nat → Int → Int) (s win deep : Int) : Nat → Int → Int := iP (paP J s win deep) (pkF (rowU J 136 (ind (pkS J s))) (enm (rowU J 136 (ind (pkS J s)))) (eKO (rowU J 136 (ind (pkS J s))) (pkS J s)) s win deep 0) J
end OPS11
