/-! ===== the calls (17): a pack: what the class makes; pack ===== -/
section OPS11
variable {n m : Int} {h h1 : HP} {I I1 J K M D : Nat → Int → Int}
theorem EV_cr (E : EV n h I J) (hI : ∀ c, c < 75 ∨ c = 76 ∨ c = 80 ∨ c = 92 ∨ 93 < c → I1 c = I c) (C2 : CR I1 J) : EV n h I1 J := by
  have C := ev_C E
  refine ⟨E.1, E.2.1, ⟨?_, ?_, ⟨?_, ?_⟩, ?_, C2⟩, E.2.2.2⟩
  · rw [BC_I (I := I) (fun c hc => hI c (by omega))]; exact C.1
  · unfold CD
    rw [hI 1 (by decide), hI 92 (by decide)]
    exact C.2.1
  · exact CS_I E.2.1 (Or.inl rfl) (fun c hc => hI c (by omega)) C.2.2.1.1
  · exact CS_I E.2.1 (Or.inr rfl) (fun c hc => hI c (by omega)) C.2.2.1.2
  · unfold CWl
    rw [hI 76 (by decide), hI 80 (by decide)]
    exact C.2.2.2.1
theorem KO_M {s : Int} : KO (pkM J s) = KO J := by
  obtain ⟨r8, r11, rf⟩ := pkM_r (J := J) (s := s)
  unfold KO
  rw [rf 95 (by decide) (by decide), rf 96 (by decide) (by decide), rf 98 (by decide) (by decide)]
theorem pk_1 {s win deep t : Int} {rp ro : Nat} {P Of : Int → Prop} {v2 v6 v7 : MV} (E : EV n h I J) (hs : s = 0 ∨ s = 1) (hm : J 108 s < 20) (h6 : J 136 = ind P) (hP : ∀ j, P j → 0 ≤ j ∧ j < J 94 0) (hd : t ≠ 0 → ∀ z, J 135 z ≠ 0 → ¬P z) (hw : 0 ≤ win ∧ win ≤ 100) (hrp : 84 ≤ rp ∧ rp ≤ 91) (hro : 84 ≤ ro ∧ ro ≤ 91) (Lp : hK h rp = (1, 100)) (Lr : hK h ro = (1, 100)) (e1 : I rp = ind P) (e2 : I ro = ind Of) (hO : OfR (pkM J s) (20 * s + J 108 s) deep t Of) :
    ∃ h1 I1 I2, Go 64 0 [.inr (.inl (some 81)), .inr (.inl (some ((hN h)))), .inr (.inl (some rp)), .inr (.inl (some ro)), .inl win, .inl deep, v6, v7] [] (mI (nuP h) (nwP I (hN h))) = some (mI (nuP h) I2, .inl none) ∧ Go 42 0 [.inr (.inl (some ((sto s + 1)))), .inr (.inl (some ((hN h)))), v2] [] (mI (nuP h) I2) = some (mI h1 I1, .inl (some (.inl (J 108 s)))) ∧
      RS h I h1 I1 (pkF J (enm J) (eKO J P) s win deep t) ∧ RD2 (pkF J (enm J) (eKO J P) s win deep t) ∧ EV n h1 I1 (pkF J (enm J) (eKO J P) s win deep t) ∧ XT h h1 6 507 ∧ ∀ c, 83 ≤ c → c ≤ 139 → I1 c = I c := by
  have st := sto_o (s := s)
  have V := ev_V E
  have T := iv_T V
  have hT := iv_t V
  have hms := T.2.2.2.1.1 s hs
  have O := E.2.1
  have n140 := O.1
  have X0 := nuP_X h
  have Y0 := LYB_X X0 E.1
  obtain ⟨r8, r11, rf⟩ := pkM_r (J := J) (s := s)
  obtain ⟨G, eX, GX, OX⟩ := pk_G (win := win) (deep := deep) (t := t) V hs hm h6 hP hd
  obtain ⟨VK, SK, TX, OPX, x8⟩ := IVX_pk (win := win) (deep := deep) (t := t) V hs hm h6 hP hd
  obtain ⟨a, ha⟩ : ∃ a, a = hN h := ⟨_, rfl⟩
  have m11 : pkM J s 111 (20 * s + J 108 s) = 0 := by rw [r11, up1_eq]
  have C0 : PC (nuP h) (nwP I (hN h)) (pkM J s) (hN h) (20 * s + J 108 s) := nwP_C m11 n140
  have B0 : BC (nwP I (hN h)) (pkM J s) := by
    rw [BC_J (J := J) (by rw [rf 94 (by decide) (by decide)]) (rf 95 (by decide) (by decide)) (rf 96 (by decide) (by decide)) (rf 97 (by decide) (by decide)) (rf 98 (by decide) (by decide)), BC_I (I := I) (fun c hc => nwP_f (by omega))]
    exact ev_B E
  have R0 : RB (pkM J s) := by
    rw [RB_J (J := J) (by rw [rf 94 (by decide) (by decide)]) (rf 95 (by decide) (by decide)) (rf 96 (by decide) (by decide)) (rf 97 (by decide) (by decide)) (rf 98 (by decide) (by decide))]
    exact iv_R V
  have m94 : pkM J s 94 0 = J 94 0 := by rw [rf 94 (by decide) (by decide)]
  have h9 : pkM J s 109 (20 * s + J 108 s) = 0 := by
    rw [rf 109 (by decide) (by decide)]
    exact (iv_M V s (J 108 s) hs (Int.le_refl _) hm).1
  have Lp0 : hK (nuP h) rp = (1, 100) := by rw [(X0.2.1 rp (by omega)).1]; exact Lp
  have Lr0 : hK (nuP h) ro = (1, 100) := by rw [(X0.2.1 ro (by omega)).1]; exact Lr
  obtain ⟨f, I2, En, g64, f64, g81, C1⟩ := k64 (h := nuP h) (I := nwP I (hN h)) (M := pkM J s) (a := hN h) (rp := rp) (ro := ro) (p := 20 * s + J 108 s) (win := win) (deep := deep) (t := t) (P := P) (Of := Of) (v6 := v6) (v7 := v7) (ly_0 Y0) (ly_81 Y0) Lp0 Lr0 B0 R0 C0 G (by omega) h9 hw (by rw [nwP_f (by omega)]; exact e1) (by rw [nwP_f (by omega)]; exact e2) (by omega) (by omega) (by rw [m94]; exact hP) hO (by rw [rf 135 (by decide) (by decide)]; exact hd)
  rw [KO_M, m94] at En
  have c0 := cN_b (P := P) (J 94 0).toNat
  have uq := Enum_u (TO_KO (iv_N V) hP) En (eKO_s (iv_N V) hT.1 hP) c0.1 c0.1
  have nq : ∀ i, 0 ≤ i → i < J 94 0 → nwP I (hN h) 9 i = enm J i := (Enum_u (TO_nm (iv_N V) (fun _ q => q)) (by
    have q := (ev_B E).2.2
    rw [← nwP_f (I := I) (n := hN h) (c := 9) (by omega)] at q
    exact q) (enm_s V) hT.1 hT.1).2
  have eP : PA (pkM J s) (nwP I (hN h) 9) (20 * s + J 108 s) win deep t f (cN P (pkM J s 94 0).toNat).toNat = pkX J (enm J) (eKO J P) s win deep t := by
    rw [eX, m94, PA_e (b := enm J) (by rw [m94]; exact hT.1) (by rw [m94]; exact nq), PA_c (f := eKO J P) _ (fun i i0 i1 => uq.2 i i0 (by omega))]
  rw [eP] at C1
  have i2 : ∀ c, c < hN h → c ≠ 81 → c ≠ 82 → I2 c = I c := fun c hc h1 h2 => by rw [f64 c (by omega) h1 h2, nwP_f (by omega)]
  have O0 : OWN (nuP h) := OWN_X O X0 (fun x k hx => nuP_R h x k (by unfold OAr at hx; omega))
  have F : ∀ y j b, OAr y → hR (nuP h) y j = some b → b + owz y < hN h := fun y j b hy hb => by
    rw [nuP_R h y j (by unfold OAr at hy; omega)] at hb
    have := (O.2.1 y j b hy hb).1
    omega
  have z3 : owz (sto s + 1 + 3) = 5 := if_pos (by omega)
  have z19 : owz (sto s + 1 + 19) = 4 := if_neg (by omega)
  have o3 : OAr (sto s + 1 + 3) := by unfold OAr; omega
  have o19 : OAr (sto s + 1 + 19) := by unfold OAr; omega
  have D0 : DN (nuP h) I2 J (sto s + 1) s := DNk_h (n := J 104 s) O X0 (by omega) (fun p => nuP_R h _ p (by omega)) (fun i _ _ => nuP_R h _ i (by omega)) (fun c hc => i2 c (by omega) (by omega) (by omega)) (fun p b hb c c0 c1 => by
    have := (O.2.1 _ p b o3 hb).1
    rw [z3] at this
    exact i2 c (by omega) (by omega) (by omega)) (fun i b _ _ hb c c0 c1 => by
    have := (O.2.1 _ i b o19 hb).1
    rw [z19] at this
    exact i2 c (by omega) (by omega) (by omega)) (DC_n.mp (ev_s E hs).1).1
  obtain ⟨h1, I1, g42, D1, R1, O1, X1, r1, f42⟩ := k42 (h := nuP h) (I := I2) (J := J) (X := pkX J (enm J) (eKO J P) s win deep t) (d := sto s + 1) (a := hN h) (s := s) (v2 := v2) (by omega) (ly_S Y0) (ly_3 Y0 st) (ly_4k Y0 st) O0 D0 (iv_Q V) T (iv_Z V) (iv_RD V hs) hs hm TX (fun c c0 c1 c2 c3 => pkX_f (by omega)) OPX C1 F x8
  have eK : rowU (dO (pkX J (enm J) (eKO J P) s win deep t) s 1 (20 * s + J 108 s)) 109 (up1 (J 109) (20 * s + J 108 s) 1) = pkF J (enm J) (eKO J P) s win deep t := rfl
  rw [eK] at D1 R1
  have i1 : ∀ c, c < hN h → (c < sto s + 1 ∨ sto s + 1 + 19 < c ∨ (sto s + 1 + 6 ≤ c ∧ c ≤ sto s + 1 + 10)) → c ≠ 81 → c ≠ 82 → I1 c = I c := fun c hc h0 h1 h2 => by rw [f42 c h0, i2 c hc h1 h2]
  obtain ⟨Ib, hIb⟩ : ∃ Ib, Ib = rowU (rowU I 81 (I1 81)) 82 (I1 82) := ⟨_, rfl⟩
  have ib : ∀ c, c ≠ 81 → c ≠ 82 → Ib c = I c := fun c c1 c2 => by rw [hIb, rowU_ne c2, rowU_ne c1]
  have Eb : EV n h Ib J := EV_fr E (fun c _ c1 c2 _ _ _ => ib c c1 c2)
  have X2 : XT h h1 6 507 := XT_w (XT_t X0 X1) (by decide) (by decide)
  have fK : ∀ a, (a < 101 ∨ (114 < a ∧ a < 120) ∨ 122 < a) ∧ a ≠ 136 → pkF J (enm J) (eKO J P) s win deep t a = J a := fun a ha => pkF_f ha
  have Sb := ev_s Eb hs
  have CSd : CS h1 I1 (pkF J (enm J) (eKO J P) s win deep t) (sto s) s := CS_d Sb D1 (fun a ha => fK a (by omega)) (fun c hc => by rw [ib c (by omega) (by omega), i1 c (by omega) (by omega) (by omega) (by omega)])
  have RS1 : RS h Ib h1 I1 (pkF J (enm J) (eKO J P) s win deep t) := RS_nt Eb hs (fun a ha => fK a (by omega)) (SK (1 - s) (by omega) (by omega)) CSd X2 (by decide) (by decide) O1 (fun x k ox h4 h20 => by rw [r1 x k ox h4, nuP_R h x k (by unfold OAr at ox; omega)]) (fun c hc hN _ => by
    by_cases c1 : c = 81
    · subst c1; rw [hIb, rowU_ne (by decide), rowU_eq]
    · by_cases c2 : c = 82
      · subst c2; rw [hIb, rowU_eq]
      · rw [ib c c1 c2, i1 c hN (by omega) c1 c2])
  have XR := RD2_of V hs (SK (1 - s) (by omega) (by omega)) R1
  refine ⟨h1, I1, I2, g64, g42, RS_tr (I0 := Ib) (fun c c0 c1 => ib c (by omega) (by omega)) RS1, XR, ⟨LYB_X X2 E.1, O1, RS1.2.2.1, INV_of VK XR.1 XR.2⟩, X2, fun c c0 c1 => i1 c (by omega) (by omega) (by omega) (by omega)⟩
-- pack
def pkW (win deep : Int) : Prop := (0 ≤ win ∧ win ≤ 8) ∧ 0 ≤ deep ∧ deep ≤ 8
noncomputable def paC (J : Nat → Int → Int) (s win deep : Int) : Int := ic (s = 0 ∨ s = 1) (ic (pkW win deep) (ic (pkN J s = 0) 0 (ic (J 108 s ≠ 20) 0 3)) 2) 1
noncomputable def paV (J : Nat → Int → Int) (s : Int) : Int := if pkN J s = 0 then -1 else J 108 s
def paP (J : Nat → Int → Int) (s win deep : Int) : Prop := (s = 0 ∨ s = 1) ∧ pkW win deep ∧ pkN J s ≠ 0 ∧ J 108 s ≠ 20
noncomputable def paK (J : Nat → Int → Int) (s win deep : Int) : Nat → Int → Int := iP (paP J s win deep) (pkF (rowU J 136 (ind (pkS J s))) (enm (rowU J 136 (ind (pkS J s)))) (eKO (rowU J 136 (ind (pkS J s))) (pkS J s)) s win deep 0) J
theorem fillR_T {P Q : Int → Prop} {T : Int} (hP : ∀ j, P j → 0 ≤ j ∧ j < T) (hQ : ∀ j, Q j → 0 ≤ j ∧ j < T) : fillR (ind P) 0 T (ind Q) = ind Q := by
  funext j
  unfold fillR
  split
  · rfl
  · unfold ind
    rw [b01_f (fun q => by have := hP j q; omega), b01_f (fun q => by have := hQ j q; omega)]
theorem PA_136 {en_ e : Int → Int} {p win deep t : Int} {P : Int → Prop} (h : M 136 = ind P) : ∀ k : Nat, ∃ Q, (∀ j, Q j → P j) ∧ PA M en_ p win deep t e k 136 = ind Q
  | 0 => ⟨P, fun _ q => q, h⟩
  | k + 1 => by
    obtain ⟨Q, hQ, eQ⟩ := PA_136 (en_ := en_) (e := e) (p := p) (win := win) (deep := deep) (t := t) h k
    refine ⟨fun j => Q j ∧ j ≠ e k, fun j q => hQ j q.1, ?_⟩
    unfold PA
    rw [P1_f (by decide), zu2_row, rowU_eq, eQ, up1_ind0]
theorem WSc_pkF {en_ e : Int → Int} {s win deep t : Int} (S : WSc J) : WSc (pkF J en_ e s win deep t) := fun a a0 a1 => by
  by_cases c : a = 136
  · subst c
    obtain ⟨P, hP, eP⟩ := S 136 (by decide) (by decide)
    obtain ⟨Q, hQ, eQ⟩ := PA_136 (M := pkM J s) (en_ := en_) (e := e) (p := 20 * s + J 108 s) (win := win) (deep := deep) (t := t) (P := P) (by rw [pkM_r.2.2 136 (by decide) (by decide)]; exact eP) (cN (fun z => J 136 z ≠ 0) (J 94 0).toNat).toNat
    refine ⟨Q, fun j q => hP j (hQ j q), ?_⟩
    rw [← eQ]
    unfold pkF
    rw [rowU_ne (by decide), dO_f (by decide)]
    rfl
  · rw [pkF_f (by omega)]
    exact S a a0 a1
theorem pkF_e {en_ e f : Int → Int} {s win deep t : Int} (h : ∀ i, 0 ≤ i → i < cN (fun z => J 136 z ≠ 0) (J 94 0).toNat → e i = f i) : pkF J en_ e s win deep t = pkF J en_ f s win deep t := by
  have c0 := cN_b (P := fun z => J 136 z ≠ 0) (J 94 0).toNat
  have : pkX J en_ e s win deep t = pkX J en_ f s win deep t := PA_c _ (fun i i0 i1 => h i i0 (by omega))
  unfold pkF
  rw [this]
theorem aw_pkS {s : Int} (g : AW J K) : pkS K s = pkS J s := by
  funext j
  unfold pkS
  rw [aw_0 g, aw_GL g, aw_HE g]
theorem aw_pkN {s : Int} (g : AW J K) : pkN K s = pkN J s := by
  unfold pkN
  rw [aw_pkS g, aw_0 g]
theorem pkN_0 {s : Int} (hT : 0 ≤ J 94 0) : pkN J s ≠ 0 ↔ ∃ j, j < J 94 0 ∧ pkS J s j := by
  constructor
  · intro q
    refine Classical.byContradiction fun r => q (cN_0 _ (fun k k0 k1 p => r ⟨k, by omega, p⟩))
  · rintro ⟨j, j1, p⟩
    have := cN_1 (P := pkS J s) (b := j) p.1.1 p (n := (J 94 0).toNat) (by have := p.1; omega)
    unfold pkN
    omega
noncomputable def rA (I J : Nat → Int → Int) (s k : Int) : Nat → Int → Int := rowU (rowU I 90 (fillR (I 90) 0 k (ind (pkS J s)))) 91 (fillR (I 91) 0 k (fun _ => 0))
theorem rA_f {s k : Int} {c : Nat} (h : c ≠ 90 ∧ c ≠ 91) : rA I J s k c = I c := by
  unfold rA
  rw [rowU_ne h.2, rowU_ne h.1]
theorem rA_90 {s k : Int} : rA I J s k 90 = fillR (I 90) 0 k (ind (pkS J s)) := by
  unfold rA
  rw [rowU_ne (by decide), rowU_eq]
theorem rA_91 {s k : Int} : rA I J s k 91 = fillR (I 91) 0 k (fun _ => 0) := rowU_eq
theorem rA_s {s k : Int} (k0 : 0 ≤ k) : zu2 (zu2 (rA I J s k) 90 k (b01 (pkS J s k))) 91 k 0 = rA I J s (k + 1) := by
  rw [zu2_row, zu2_row]
  funext c
  by_cases c1 : c = 91
  · subst c1
    rw [rowU_eq, rowU_ne (by decide), rA_91, rA_91, fillR_s k0 rfl]
  · rw [rowU_ne c1]
    by_cases c2 : c = 90
    · subst c2
      rw [rowU_eq, rA_90, rA_90]
      exact fillR_s (v := b01 (pkS J s k)) k0 rfl
    · rw [rowU_ne c2, rA_f ⟨c2, c1⟩, rA_f ⟨c2, c1⟩]
theorem k128a {s win deep : Int} (E : EV n h I J) (hs : s = 0 ∨ s = 1) : Go 128 19 [.inr (.inl (some 1)), .inl s, .inl win, .inl deep, .inr (.inl (some ((sto s)))), .inl 0, .inl 0] [] (mI h I) = Go 128 61 [.inr (.inl (some 1)), .inl s, .inl win, .inl deep, .inr (.inl (some ((sto s)))), .inl (b01 (pkN J s ≠ 0)), .inl (J 94 0)] [] (mI h (rA I J s (J 94 0))) ∧ EV n h (rA I J s (J 94 0)) J ∧ rA I J s (J 94 0) 90 = ind (pkS J s) ∧ rA I J s (J 94 0) 91 = ind (fun _ => False) := by
  have st := sto_o (s := s)
  have L10 := ly_10 E.1
  have L8 := ly_8 E.1 st
  have L3 := ly_3 E.1 st
  have V := ev_V E
  have T := iv_T V
  have hT := iv_t V
  have C := ev_C E
  have D := (ev_s E hs).1
  have rf : ∀ k c, c ≠ 90 → c ≠ 91 → rA I J s k c = I c := fun k c c1 c2 => rA_f ⟨c1, c2⟩
  obtain ⟨P0, hP0, e90⟩ := C.2.2.2.2.2.1.2.1
  obtain ⟨P1, hP1, e91⟩ := C.2.2.2.2.2.1.2.2
  have a90 : rA I J s (J 94 0) 90 = ind (pkS J s) := by
    rw [rA_90, e90]
    exact fillR_T hP0 (fun j q => q.1)
  have z91 : (fun _ : Int => (0 : Int)) = ind (fun _ => False) := by
    funext j
    exact (b01_f (fun q => q)).symm
  have a91 : rA I J s (J 94 0) 91 = ind (fun _ => False) := by
    rw [rA_91, e91, z91]
    exact fillR_T hP1 (fun j q => q.elim)
  refine ⟨?_, EV_cr E (fun c hc => rf _ c (by omega) (by omega)) ⟨?_, ⟨?_, ⟨_, fun j q => q.1, a90⟩, ⟨_, fun j q => q.elim, a91⟩⟩, ?_, ?_⟩, a90, a91⟩
  rotate_left
  · rw [rf _ 75 (by decide) (by decide), rf _ 87 (by decide) (by decide), rf _ 89 (by decide) (by decide)]
    exact C.2.2.2.2.1
  · rw [rf _ 84 (by decide) (by decide)]
    exact C.2.2.2.2.2.1.1
  · rw [rf _ 78 (by decide) (by decide)]
    exact C.2.2.2.2.2.2.1
  · rw [rf _ 79 (by decide) (by decide)]
    exact C.2.2.2.2.2.2.2
  have key := lpU (fun k => Go 128 19 [.inr (.inl (some 1)), .inl s, .inl win, .inl deep, .inr (.inl (some ((sto s)))), .inl (b01 (∃ j, j < k ∧ pkS J s j)), .inl k] [] (mI h (rA I J s k))) 0 (J 94 0) hT.1 ?_
  · have z0 : b01 (∃ j, j < 0 ∧ pkS J s j) = 0 := b01_f (fun ⟨j, j1, q⟩ => by have := q.1; omega)
    have m0 : mI h (rA I J s 0) = mI h I := by
      unfold rA
      rw [fillR_0 (by decide), fillR_0 (by decide), rowU_id, rowU_id]
    rw [z0, m0] at key
    rw [key, b128_19 L10 (ly_0 E.1), rf _ 2 (by decide) (by decide), C.1.1, if_pos (Int.le_refl _), b01_c (pkN_0 hT.1)]
  · intro k k0 k1
    have fin : Go 128 42 [.inr (.inl (some 1)), .inl s, .inl win, .inl deep, .inr (.inl (some ((sto s)))), .inl (b01 (∃ j, j < k ∧ pkS J s j)), .inl k] [.inl (b01 (pkS J s k)), .inl k, .inr (.inl (some 90))] (mI h (rA I J s k)) = Go 128 19 [.inr (.inl (some 1)), .inl s, .inl win, .inl deep, .inr (.inl (some ((sto s)))), .inl (b01 (∃ j, j < k + 1 ∧ pkS J s j)), .inl (k + 1)] [] (mI h (rA I J s (k + 1))) := by
      have a90 : rA I J s (k + 1) 90 k = b01 (pkS J s k) := by
        rw [rA_90, fillR_in (by omega)]
        rfl
      rw [b128_42 L10 (by omega) (b01_or _) (by omega), rA_s k0]
      by_cases c : ∃ j, j < k ∧ pkS J s j
      · have c' : ∃ j, j < k + 1 ∧ pkS J s j := by
          obtain ⟨j, j1, q⟩ := c
          exact ⟨j, by omega, q⟩
        rw [b01_t c, b01_t c', if_pos (by decide), b128_55, b128_58 (by omega)]
      · rw [b01_f c, if_neg (by decide), b128_50 L10 (by omega), a90]
        by_cases q : pkS J s k
        · have c' : ∃ j, j < k + 1 ∧ pkS J s j := ⟨k, by omega, q⟩
          rw [b01_t c', b01_t q, if_neg (by decide), b128_55, b128_58 (by omega)]
        · have c' : ¬∃ j, j < k + 1 ∧ pkS J s j := fun ⟨j, j1, r⟩ => by
            by_cases e : j = k
            · rw [e] at r; exact q r
            · exact c ⟨j, by omega, r⟩
          rw [b01_f c', b01_f q, if_pos rfl, b128_57, b128_58 (by omega)]
    have ea : rA I J s k (sto s + 2) k = lcI J s k := by
      rw [rf _ _ (by omega) (by omega)]
      exact (D.1.1 k k0 (by omega)).1
    have Dk : DC h (rA I J s k) J (sto s + 1) s := DC_I E.2.1 (by omega) (fun c hc => rf _ c (by omega) (by omega)) D
    rw [b128_19 L10 (ly_0 E.1), rf _ 2 (by decide) (by decide), C.1.1, if_neg (by omega), b128_24 L10 L8 L3 (by omega), ea, ← fin]
    by_cases q : GL J s k
    · rw [if_neg (fun t => t ((lc_1 T.2.1).mpr q)), b128_34 L8 L3, k36 L3 Dk (iv_M V) T.2.2.2.1 (iv_P V) hs (by omega), caln_r, b128_38]
      by_cases r : HE J s k 1
      · rw [b01_t r, if_pos (by decide), b128_41, b01_f (p := pkS J s k) (fun t => t.2.2 r)]
      · rw [b01_f r, if_neg (fun t => t rfl), b128_39, b01_t (p := pkS J s k) ⟨⟨k0, k1⟩, q, r⟩]
    · rw [if_pos (fun t => q ((lc_1 T.2.1).mp t)), b128_41, b01_f (p := pkS J s k) (fun t => q t.2.1)]
theorem k128 {s win deep : Int} {v4 v5 v6 : MV} (E : EV n h I J) : ∃ h1 I1, Go 128 0 [.inr (.inl (some 1)), .inl s, .inl win, .inl deep, v4, v5, v6] [] (mI h I) = some (mI h1 I1, oc eA (paC J s win deep) (paV J s)) ∧ RS h I h1 I1 (paK J s win deep) ∧ RD2 (paK J s win deep) := by
  have L10 := ly_10 E.1
  have V := ev_V E
  have T := iv_T V
  have hT := iv_t V
  unfold paC paK
  by_cases hs : s = 0 ∨ s = 1
  rotate_left
  · rw [ic_f hs, iP_f (fun q => hs q.1)]
    exact ⟨hThr h, I, by rw [b128_0 L10, k142x hs, caln_x]; rfl, RS_x E, RD2_r V⟩
  have st := sto_o (s := s)
  have L8 := ly_8 E.1 st
  have L3 := ly_3 E.1 st
  have hms := T.2.2.2.1.1 s hs
  rw [ic_t hs, b128_0 L10, k142 E.1 hs, caln_r, b128_3]
  by_cases hw : pkW win deep
  rotate_left
  · rw [ic_f hw, iP_f (fun q => hw q.2.1)]
    refine ⟨hThr h, I, ?_, RS_x E, RD2_r V⟩
    have e14 : Go 128 14 [.inr (.inl (some 1)), .inl s, .inl win, .inl deep, .inr (.inl (some ((sto s)))), v5, v6] [] (mI h I) = some (mI (hThr h) I, oc eA 2 (paV J s)) := by rw [b128_14]; rfl
    by_cases c1 : win < 0
    · rw [if_pos c1, e14]
    · rw [if_neg c1, b128_6]
      by_cases c2 : 8 < win
      · rw [if_pos c2, e14]
      · rw [if_neg c2, b128_9]
        by_cases c3 : deep < 0
        · rw [if_pos c3, e14]
        · rw [if_neg c3, b128_11, if_neg (fun q => hw ⟨by omega, by omega, q⟩), e14]
  obtain ⟨⟨w0, w1⟩, w2, w3⟩ := hw
  have hw : pkW win deep := ⟨⟨w0, w1⟩, w2, w3⟩
  obtain ⟨eL, EA, a90, a91⟩ := k128a (win := win) (deep := deep) E hs
  obtain ⟨A, hA⟩ : ∃ A, A = rA I J s (J 94 0) := ⟨_, rfl⟩
  rw [← hA] at eL EA a90 a91
  have fA : ∀ c, 94 ≤ c → c ≤ 139 → A c = I c := fun c c0 c1 => by rw [hA, rA_f (by omega)]
  rw [ic_t hw, if_neg (by omega), b128_6, if_neg (by omega), b128_9, if_neg (by omega), b128_11, if_pos w3, b128_15, eL, b128_61]
  unfold paV
  by_cases h0 : pkN J s = 0
  · rw [b01_f (fun q => q h0), if_neg (fun q => q rfl), b128_63, ic_t h0, if_pos h0, iP_f (fun q => q.2.2.1 h0)]
    exact ⟨h, A, rfl, RS_e EA fA, RD2_r V⟩
  rw [b01_t h0, if_pos (by decide), b128_65 L8 L3, ((ev_s EA hs).1).2.1.1, ic_f h0, if_neg h0]
  by_cases hm : J 108 s = 20
  · rw [if_neg (by omega), b128_70, ic_f (fun q => q hm), iP_f (fun q => q.2.2.2 hm)]
    exact ⟨hThr h, A, rfl, RS_t (RS_e EA fA) (XT_w (XT_r h) (by decide) (by decide)), RD2_r V⟩
  rw [if_pos (by omega), b128_71, k55, caln_v, ic_t hm, iP_t ⟨hs, hw, h0, hm⟩]
  obtain ⟨J', hJ'⟩ : ∃ J', J' = rowU J 136 (ind (pkS J s)) := ⟨_, rfl⟩
  rw [← hJ']
  have g : AW J J' := by rw [hJ']; exact AW_U (AW_r J) (Or.inl (by decide))
  have E' := EV_w g EA
  have j94 : J' 94 = J 94 := by rw [hJ', rowU_ne (by decide)]
  have j108 : J' 108 = J 108 := by rw [hJ', rowU_ne (by decide)]
  obtain ⟨h1, I1, I2, g64, g42, r1, x1, _, X1, _⟩ := pk_1 (win := win) (deep := deep) (t := 0) (rp := 90) (ro := 91) (P := pkS J s) (Of := fun _ => False) (v2 := vU) (v6 := vU) (v7 := vU) E' hs (by rw [j108]; omega) (by rw [hJ', rowU_eq]) (fun j q => by rw [j94]; exact q.1) (fun q => absurd rfl q) (by omega) (by decide) (by decide) (LX_k L10 7 false 89 1 100 rfl) (LX_k L10 8 false 90 1 100 rfl) a90 a91 (Or.inl ⟨rfl, fun _ _ _ q => q⟩)
  have Y0 := LYB_X (nuP_X h) E.1
  refine ⟨h1, I1, ?_, RS_tr (I0 := A) fA r1, x1⟩
  rw [b128_74 (ly_10 Y0) (ly_81 Y0), g64, caln_v, b128_85 (ly_8 Y0 st) (ly_3 Y0 st), g42, caln_r, b128_89, j108]
  rfl
theorem aw_pkW {s win deep : Int} (g : AW I J) : paP J s win deep ↔ paP I s win deep := by
  unfold paP
  rw [aw_pkN g, g.1 108 (by decide) (by decide)]
theorem s128 {s win deep : Int} (E : EV n h I I) (S : WSc I) : STEP 128 [.inr (.inl (some 1)), .inl s, .inl win, .inl deep, vU, vU, vU] 249 [.inr (.inl (some 94)), .inl s, .inl win, .inl deep, vU] eA n h I :=
  STEP_mkx (c := fun J => paC J s win deep) (v := fun J => paV J s) (K := fun J => paK J s win deep) (X := RD2) E S eA_i (fun J => by unfold paC; have := ic_r (p := s = 0 ∨ s = 1) (ic_r (p := pkW win deep) (ic_r (p := pkN J s = 0) (x := 0) (by decide) (ic_r (p := J 108 s ≠ 20) (x := 0) (y := 3) (by decide) (by decide))) (y := 2) (by decide)) (y := 1) (by decide); omega) (fun J E => k128 E)
    (fun h2 I2 L V S => by
      obtain ⟨J, hJ⟩ : ∃ J, J = rowU (tH I2 0) 136 (ind (pkS I2 s)) := ⟨_, rfl⟩
      have g : AW I2 J := by rw [hJ]; exact AW_U (AW_t (AW_r I2)) (Or.inl (by decide))
      have V2 : INV n J := by rw [aw_INV g]; exact V
      obtain ⟨e, hE, e9⟩ := r249 (h := h2) (I := I2) (en_ := enm J) (s := s) (win := win) (deep := deep) (v4 := vU) L (iv_T V) (iv_N V) (iv_X V) (by rw [← aw_EnN g]; exact enm_s V2) (S 136 (by decide) (by decide))
      have f : ∀ a, a ≠ 94 → a ≠ 136 → J a = I2 a := fun a h1 h2 => by rw [hJ, rowU_ne h2, tH_n h1]
      have j49 : J 94 49 = 0 := by rw [hJ, rowU_ne (by decide), tH_49]
      have eS := aw_pkS (s := s) g
      have eN := aw_pkN (s := s) g
      have hT := iv_t V2
      have P3 : S3 (pkS I2 s) := fun j q => by have := q.1; rw [aw_0 g] at hT; omega
      have W : WSc J := fun a a0 a1 => by
        by_cases c : a = 136
        · subst c
          exact ⟨_, P3, by rw [hJ, rowU_eq]⟩
        · rw [hJ, rowU_ne c]
          exact WSc_t S a a0 a1
      have bad : ∀ t : Int, AW J (tH I2 t) := fun t => AW_tr (AW_s g) (AW_t (AW_r I2))
      have eJ : rowU J 136 (ind (pkS J s)) = J := by rw [eS, hJ, rowU_tw]
      have j8 : J 108 = I2 108 := f 108 (by decide) (by decide)
      rw [e9]
      refine ⟨J, ?_⟩
      unfold paC paK paV
      dsimp only
      rw [eN, eJ, j8]
      by_cases c1 : s = 0 ∨ s = 1
      · rw [if_pos c1, ic_t c1]
        by_cases c2 : pkW win deep
        · rw [if_pos (show (0 ≤ win ∧ win ≤ 8) ∧ 0 ≤ deep ∧ deep ≤ 8 from c2), ic_t c2]
          by_cases c3 : pkN I2 s = 0
          · rw [if_pos c3, ic_t c3, if_pos c3, iP_f (fun q => q.2.2.1 (by rw [eN]; exact c3)), ← hJ]
            exact ⟨_, _, g, rfl, j49, fun _ => rfl, fun a ha => f a (by omega) (by omega), AW_r _, fun _ => INV_s V2, W⟩
          · rw [if_neg c3, ic_f c3, if_neg c3]
            by_cases c4 : I2 108 s ≠ 20
            · have hm := (iv_T V).2.2.2.1.1 s c1
              have q := (hE c1 c2 (by have := (cN_b (P := pkS I2 s) (I2 94 0).toNat).1; unfold pkN at c3 ⊢; omega) (by omega)).1
              have j6 : J 136 = ind (pkS J s) := by rw [eS, hJ, rowU_eq]
              have cc : cN (fun z => J 136 z ≠ 0) (J 94 0).toNat = cN (pkS J s) (J 94 0).toNat := cN_136 j6
              have q2 := eKO_s (P := pkS J s) (iv_N V2) hT.1 (fun j q => q.1)
              rw [← eS, ← aw_KO g, ← eN] at q
              have uq := (Enum_u (TO_KO (iv_N V2) (fun j (q : pkS J s j) => q.1)) q q2 (cN_b _).1 (cN_b _).1).2
              have eF : pkF J (enm J) e s win deep 0 = pkF J (enm J) (eKO J (pkS J s)) s win deep 0 := pkF_e (fun i i0 i1 => uq i i0 (by rw [cc] at i1; exact i1))
              obtain ⟨VX, _⟩ := IVX_pk (s := s) (win := win) (deep := deep) (t := 0) (P := pkS J s) V2 c1 (by rw [j8]; omega) j6 (fun j q => q.1) (fun q => absurd rfl q)
              rw [aq_t c4, ic_t c4, iP_t ⟨c1, c2, by rw [eN]; exact c3, by rw [j8]; exact c4⟩, ← hJ, eF]
              exact ⟨_, _, g, rfl, by rw [pkF_f (by decide), j49], fun _ => rfl, fun a ha => by rw [pkF_f (by omega), f a (by omega) (by omega)], AW_r _, fun R => INV_x VX rfl R, WSc_pkF W⟩
            · rw [aq_f c4, ic_f c4, iP_f (fun q => c4 (by rw [← j8]; exact q.2.2.2))]
              have e3 : tH (rowU I2 136 (ind (pkS I2 s))) 3 = rowU (tH I2 3) 136 (ind (pkS I2 s)) := tH_rU (by decide)
              exact ⟨_, _, g, rfl, tH_49, (fun q => absurd q (by decide)), fun a ha => by rw [tH_n (by omega), rowU_ne (by omega)], by rw [e3]; exact AW_U (bad 3) (Or.inl (by decide)), fun _ => INV_s V2, fun a a0 a1 => by
                rw [tH_n (by omega)]
                by_cases c : a = 136
                · subst c
                  exact ⟨_, P3, rowU_eq⟩
                · rw [rowU_ne c]
                  exact S a a0 a1⟩
        · rw [if_neg (show ¬((0 ≤ win ∧ win ≤ 8) ∧ 0 ≤ deep ∧ deep ≤ 8) from c2), ic_f c2, iP_f (fun q => c2 q.2.1)]
          exact ⟨_, _, g, rfl, tH_49, (fun q => absurd q (by decide)), fun a ha => tH_n (by omega), bad 2, fun _ => INV_s V2, WSc_t S⟩
      · rw [if_neg c1, ic_f c1, iP_f (fun q => c1 q.1)]
        exact ⟨_, _, g, rfl, tH_49, (fun q => absurd q (by decide)), fun a ha => tH_n (by omega), bad 1, fun _ => INV_s V2, WSc_t S⟩)
end OPS11
