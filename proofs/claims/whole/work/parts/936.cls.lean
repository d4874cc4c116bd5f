/-! ===== the calls (19): what is sent ===== -/
section OPS13
variable {n m : Int} {h h1 : HP} {I I1 J K M D : Nat → Int → Int}
theorem EV_nu (E : EV n h I J) : EV n (nuP h) (nwP I (hN h)) J := by
  have O := E.2.1
  have n140 := O.1
  have X0 := nuP_X h
  have C := ev_C E
  have rr : ∀ x k, OAr x → hR (nuP h) x k = hR h x k := fun x k hx => nuP_R h x k (by unfold OAr at hx; omega)
  have f : ∀ c, c < hN h → nwP I (hN h) c = I c := fun c hc => nwP_f (Or.inl hc)
  have cs : ∀ s, s = 0 ∨ s = 1 → CS (nuP h) (nwP I (hN h)) J (sto s) s := fun s hs => by
    have st := sto_o (s := s)
    have Cs := CPL_s C hs
    have o3 : OAr (sto s + 1 + 3) := by unfold OAr; omega
    have o19 : OAr (sto s + 1 + 19) := by unfold OAr; omega
    have z3 : owz (sto s + 1 + 3) = 5 := if_pos (by omega)
    have z19 : owz (sto s + 1 + 19) = 4 := if_neg (by omega)
    refine ⟨DC_kp O X0 (by omega) (fun k => rr _ k o3) (fun k => rr _ k o19) (fun c c0 c1 => f c (by omega)) (fun p a ha c c0 c1 => ?_) (fun i a ha c c0 c1 => ?_) Cs.1, ?_, ?_⟩
    · have := (O.2.1 _ p a o3 ha).1
      rw [z3] at this
      exact f c (by omega)
    · have := (O.2.1 _ i a o19 ha).1
      rw [z19] at this
      exact f c (by omega)
    · rw [SC_I (I := I) (fun c hc => f c (by omega))]
      exact Cs.2.1
    · rw [CC_I (I := I) (fun c c0 c1 => f c (by omega))]
      exact Cs.2.2
  refine ⟨LYB_X X0 E.1, OWN_X O X0 rr, ⟨?_, ?_, ⟨cs 0 (Or.inl rfl), cs 1 (Or.inr rfl)⟩, ?_, ?_⟩, E.2.2.2⟩
  · rw [BC_I (I := I) (fun c hc => f c (by omega))]
    exact C.1
  · unfold CD
    rw [f 1 (by omega), f 92 (by omega)]
    exact C.2.1
  · unfold CWl
    rw [f 76 (by omega), f 80 (by omega)]
    exact C.2.2.2.1
  · unfold CR
    rw [f 75 (by omega), f 87 (by omega), f 89 (by omega), f 84 (by omega), f 90 (by omega), f 91 (by omega), f 78 (by omega), f 79 (by omega)]
    exact C.2.2.2.2
theorem Gd_pkM {s o : Int} (V : INV n J) (hs : s = 0 ∨ s = 1) (hm : J 108 s < 20) : Gd (pkM J s) s o ↔ Gd J s o := by
  obtain ⟨r8, r11, rf⟩ := pkM_r (J := J) (s := s)
  have g : ∀ a, a ≠ 108 → a ≠ 111 → pkM J s a = J a := rf
  have h0 := (iv_M V s (J 108 s) hs (Int.le_refl _) hm).1
  have e1 : GL (pkM J s) s o ↔ GL J s o := by
    unfold GL BL
    rw [g 101 (by decide) (by decide), g 103 (by decide) (by decide), g 107 (by decide) (by decide)]
  have e2 : HE (pkM J s) s o 1 ↔ HE J s o 1 := by
    unfold HE GE
    rw [r8, r11, g 109 (by decide) (by decide), g 112 (by decide) (by decide), g 113 (by decide) (by decide), g 114 (by decide) (by decide)]
    constructor
    · rintro ⟨p, k, p0, p1, p9, k0, k1, ko, kg⟩
      rw [up1_eq] at p1
      have ne : p ≠ 20 * s + J 108 s := fun q => by rw [q] at p9; exact p9 h0
      rw [up1_ne ne] at k1
      exact ⟨p, k, p0, by omega, p9, k0, k1, ko, kg⟩
    · rintro ⟨p, k, p0, p1, p9, k0, k1, ko, kg⟩
      exact ⟨p, k, p0, by rw [up1_eq]; omega, p9, k0, by rw [up1_ne (by omega)]; exact k1, ko, kg⟩
  unfold Gd
  rw [e1, e2]
noncomputable def fQ (J : Nat → Int → Int) (u r l hf : Int) : Nat → Int → Int := if 0 < fN J u r l hf then pkF J (enm J) (eKO J (fS J u r l hf)) (1 - u) 4 4 1 else J
theorem k160a {u r l hf : Int} {v4 : MV} (E : EV n h I J) (hu : u = 0 ∨ u = 1) (hr : 0 ≤ r ∧ r ≤ 5) (F1 : f1 J u r) (G : fG J u r l hf) (P : PLN I J u r l hf) (j5 : J 135 = ind (Hd J (1 - u))) (j6 : J 136 = ind (fS J u r l hf)) :
    ∃ h1 I1 v, Go 160 0 [.inr (.inl (some 1)), .inr (.inl (some ((sto u)))), .inr (.inl (some ((sto (1 - u))))), .inl r, v4] [] (mI h I) = Go 160 31 [.inr (.inl (some 1)), .inr (.inl (some ((sto u)))), .inr (.inl (some ((sto (1 - u))))), .inl r, v] [] (mI h1 I1) ∧ EV n h1 I1 (fQ J u r l hf) ∧ XT h h1 6 507 ∧ ∀ c, 83 ≤ c → c ≤ 139 → c ≠ 91 → I1 c = I c := by
  obtain ⟨i84, i87, i89, i83⟩ := P
  have ht : 1 - u = 0 ∨ 1 - u = 1 := by omega
  have st := sto_o (s := 1 - u)
  have Y := E.1
  have L10 := ly_10 Y
  have V := ev_V E
  have T := iv_T V
  have hT := iv_t V
  have C := ev_C E
  have hm := T.2.2.2.1.1 (1 - u) ht
  rw [b160_0 L10 (ly_83 Y), i83]
  unfold fQ
  by_cases c0 : fN J u r l hf ≤ 0
  · rw [if_pos c0, if_neg (by omega)]
    exact ⟨h, I, v4, rfl, E, XT_w (XT_r h) (by decide) (by decide), fun _ _ _ _ => rfl⟩
  rw [if_neg c0, if_pos (by omega)]
  have c0' : 0 < fN J u r l hf := by omega
  have hm20 := G.2 c0'
  have hm2 : J 108 (1 - u) < 20 := by omega
  obtain ⟨w1, w2⟩ := Wn_t (l := l) V hu hr F1.2
  have s1 : SL J (fS J u r l hf) := fun j q => w1 j q.1
  have EN := EV_nu E
  have Y0 := EN.1
  have n140 := E.2.1.1
  obtain ⟨P1, p1, i91⟩ := C.2.2.2.2.2.1.2.2
  obtain ⟨Of, hOf⟩ : ∃ Of : Int → Prop, Of = fun j => (0 ≤ j ∧ j < J 94 0) ∧ Hd J (1 - u) j ∧ Gd J (1 - u) j := ⟨_, rfl⟩
  have g28 := k28 (h := nuP h) (I := nwP I (hN h)) (J := J) (d := sto (1 - u) + 1) (s := 1 - u) (H := Hd J (1 - u)) (P1 := P1) (v3 := vU) (ly_0 Y0) (ly_83 Y0) (ly_88 Y0) (LX_k (ly_10 Y0) 8 false 90 1 100 rfl) (ly_3 Y0 st) EN.2.1 (by omega) (ev_B EN) hT (ev_s EN ht).1 (iv_M V) T.2.2.2.1 (iv_P V) T.2.1 ht (by rw [nwP_f (by omega)]; exact i89) (by rw [nwP_f (by omega)]; exact i91) p1
  rw [← hOf, nwP_U (by omega)] at g28
  obtain ⟨A, hA⟩ : ∃ A, A = rowU I 91 (ind Of) := ⟨_, rfl⟩
  rw [← hA] at g28
  have fA : ∀ c, c ≠ 91 → A c = I c := fun c hc => by rw [hA, rowU_ne hc]
  have a91 : A 91 = ind Of := by rw [hA, rowU_eq]
  have EA : EV n h A J := EV_cr E (fun c hc => fA c (by omega)) ⟨⟨?_, ?_, ?_⟩, ⟨?_, ?_, ⟨Of, fun j q => by rw [hOf] at q; exact q.1, a91⟩⟩, ?_, ?_⟩
  rotate_left
  · rw [fA 75 (by decide)]; exact C.2.2.2.2.1.1
  · rw [fA 87 (by decide)]; exact C.2.2.2.2.1.2.1
  · rw [fA 89 (by decide)]; exact C.2.2.2.2.1.2.2
  · rw [fA 84 (by decide)]; exact C.2.2.2.2.2.1.1
  · rw [fA 90 (by decide)]; exact C.2.2.2.2.2.1.2.1
  · rw [fA 78 (by decide)]; exact C.2.2.2.2.2.2.1
  · rw [fA 79 (by decide)]; exact C.2.2.2.2.2.2.2
  have hO : OfR (pkM J (1 - u)) (20 * (1 - u) + J 108 (1 - u)) 4 1 Of := by
    have rf := (pkM_r (J := J) (s := 1 - u)).2.2
    refine Or.inr ⟨rfl, by decide, fun z z0 z1 => ?_⟩
    rw [rf 94 (by decide) (by decide)] at z1
    rw [show (20 * (1 - u) + J 108 (1 - u)) / 20 = 1 - u by omega, Gd_pkM V ht hm2, rf 135 (by decide) (by decide), j5, hOf, ne_eq, ind_at, Classical.not_not]
    exact ⟨fun q => q.2, fun q => ⟨⟨z0, z1⟩, q⟩⟩
  obtain ⟨h1, I1, I2, g64, g42, r1, x1, E1, X1, fr⟩ := pk_1 (win := 4) (deep := 4) (t := 1) (rp := 84) (ro := 91) (P := fS J u r l hf) (Of := Of) (v2 := vU) (v6 := vU) (v7 := vU) EA ht hm2 j6 s1 (fun _ z hz q => by
    rw [j5, ne_eq, ind_at, Classical.not_not] at hz
    exact q.2.1 hz) (by decide) (by decide) (by decide) (LX_k (ly_83 Y) 3 false 1 1 100 rfl) (LX_k L10 8 false 90 1 100 rfl) (by rw [fA 84 (by decide)]; exact i84) a91 hO
  refine ⟨h1, I1, .inr (.inl (some ((hN h)))), ?_, E1, X1, fun c c0 c1 c91 => by rw [fr c c0 c1, fA c c91]⟩
  rw [b160_4, k55, caln_v, b160_7 (ly_10 Y0) (ly_8 Y0 st) (ly_83 Y0), g28, caln_v, b160_15 (ly_10 Y0) (ly_83 Y0) (ly_81 Y0), g64, caln_v, b160_26 (ly_8 Y0 st) (ly_3 Y0 st), g42, caln_r, b160_30]
end OPS13
