/-! ===== the calls (14): replace ===== -/
theorem Cl_mo {E : Int → Int → Prop} {S T : Int → Prop} (h : ∀ a, S a → T a) {x : Int} (c : Cl E S x) : Cl E T x := Cl_ind (P := Cl E T) c (fun a q => Cl_base (h a q)) (fun a b p e => Cl_step p e)
theorem Cl_tr {E : Int → Int → Prop} {S T : Int → Prop} (h : ∀ a, S a → Cl E T a) {x : Int} (c : Cl E S x) : Cl E T x := Cl_ind (P := Cl E T) c (fun a q => h a q) (fun a b p e => Cl_step p e)
theorem Cl_ex {E : Int → Int → Prop} {S : Int → Prop} {x : Int} (c : Cl E S x) : ∃ a, S a ∧ Cl E (fun j => j = a) x := Cl_ind (P := fun x => ∃ a, S a ∧ Cl E (fun j => j = a) x) c (fun a q => ⟨a, q, Cl_base rfl⟩) (fun a b ⟨c, sc, cc⟩ e => ⟨c, sc, Cl_step cc e⟩)
theorem rel_f {E F : Int → Int → Prop} {S : Int → Prop} {o : Int} (hne : ∀ a b, a ≠ o → (F a b ↔ E a b)) (q : Cl E S o) : ∃ b, S b ∧ Cl F (fun j => j = b) o := by
  have key : ∀ j, Cl E S j → Cl F S j ∨ Cl F S o := fun j c => Cl_ind (P := fun j => Cl F S j ∨ Cl F S o) c (fun a sa => Or.inl (Cl_base sa)) (fun a b p e => by
    obtain p | p := p
    · by_cases h : a = o
      · subst h; exact Or.inr p
      · exact Or.inl (Cl_step p ((hne a b h).mpr e))
    · exact Or.inr p)
  exact Cl_ex ((key o q).elim id id)
theorem rel_a {E F : Int → Int → Prop} {S P : Int → Prop} {o : Int} (hne : ∀ a b, a ≠ o → (F a b ↔ E a b)) (ho : ∀ b, F o b ↔ S b) (nq : ¬Cl E S o) (A : ∀ k b, P k → E k b → ¬Cl E (fun j => j = b) k) : ∀ k b, P k → F k b → ¬Cl F (fun j => j = b) k := by
  have claim : ∀ (T : Int → Prop) (j : Int), Cl F T j → Cl E T j ∨ (Cl F T o ∧ Cl E S j) := fun T j c => (Cl_ind (P := fun j => Cl F T j ∧ (Cl E T j ∨ (Cl F T o ∧ Cl E S j))) c (fun a q => ⟨Cl_base q, Or.inl (Cl_base q)⟩) (fun a b p e => by
    refine ⟨Cl_step p.1 e, ?_⟩
    by_cases h : a = o
    · subst h
      exact Or.inr ⟨p.1, Cl_base ((ho b).mp e)⟩
    · have e2 := (hne a b h).mp e
      obtain q | q := p.2
      · exact Or.inl (Cl_step q e2)
      · exact Or.inr ⟨q.1, Cl_step q.2 e2⟩)).2
  intro k b pk e c
  have one : ∀ b, S b → ¬Cl E (fun j => j = b) o := fun b sb q => nq (Cl_mo (fun a h => by rw [h]; exact sb) q)
  by_cases h : k = o
  · subst h
    obtain q | q := claim _ _ c
    · exact one b ((ho b).mp e) q
    · exact nq q.2
  · have e2 := (hne k b h).mp e
    obtain q | q := claim _ _ c
    · exact A k b pk e2 q
    · obtain r | r := claim _ _ q.1
      · exact nq (Cl_tr (fun a h => by rw [h]; exact Cl_step q.2 e2) r)
      · exact nq r.2
section OPS9
variable {n m : Int} {h h1 : HP} {I I1 J K M D : Nat → Int → Int}
/-- rows of the class that no one reads across calls -/
theorem EV_fr (E : EV n h I J) (hI : ∀ c, c ≠ 77 → c ≠ 81 → c ≠ 82 → c ≠ 83 → c ≠ 85 → c ≠ 93 → I1 c = I c) : EV n h I1 J := by
  have C := ev_C E
  have r : ∀ c, c ≠ 77 → c ≠ 81 → c ≠ 82 → c ≠ 83 → c ≠ 85 → c ≠ 93 → I1 c = I c := hI
  refine ⟨E.1, E.2.1, ⟨?_, ?_, ⟨?_, ?_⟩, ?_, ?_⟩, E.2.2.2⟩
  · rw [BC_I (I := I) (fun c hc => r c (by omega) (by omega) (by omega) (by omega) (by omega) (by omega))]; exact C.1
  · unfold CD
    rw [r 1 (by decide) (by decide) (by decide) (by decide) (by decide) (by decide), r 92 (by decide) (by decide) (by decide) (by decide) (by decide) (by decide)]
    exact C.2.1
  · exact CS_I E.2.1 (Or.inl rfl) (fun c hc => r c (by omega) (by omega) (by omega) (by omega) (by omega) (by omega)) C.2.2.1.1
  · exact CS_I E.2.1 (Or.inr rfl) (fun c hc => r c (by omega) (by omega) (by omega) (by omega) (by omega) (by omega)) C.2.2.1.2
  · unfold CWl
    rw [r 76 (by decide) (by decide) (by decide) (by decide) (by decide) (by decide), r 80 (by decide) (by decide) (by decide) (by decide) (by decide) (by decide)]
    exact C.2.2.2.1
  · unfold CR
    rw [r 75 (by decide) (by decide) (by decide) (by decide) (by decide) (by decide), r 87 (by decide) (by decide) (by decide) (by decide) (by decide) (by decide), r 89 (by decide) (by decide) (by decide) (by decide) (by decide) (by decide), r 84 (by decide) (by decide) (by decide) (by decide) (by decide) (by decide), r 90 (by decide) (by decide) (by decide) (by decide) (by decide) (by decide), r 91 (by decide) (by decide) (by decide) (by decide) (by decide) (by decide), r 78 (by decide) (by decide) (by decide) (by decide) (by decide) (by decide), r 79 (by decide) (by decide) (by decide) (by decide) (by decide) (by decide)]
    exact C.2.2.2.2
theorem RS_e (E : EV n h I1 J) (hI : ∀ c, 94 ≤ c → c ≤ 139 → I1 c = I c) : RS h I h I1 J := ⟨XT_w (XT_r h) (by decide) (by decide), E.2.1, E.2.2.1, hI⟩
def rpJ (J : Nat → Int → Int) (s o z : Int) : Nat → Int → Int := rowU J 118 (up1 (J 118) (120 * s + o) z)
def rpY (o z : Int) : Int := if z = 0 then o else z - 1
theorem rp_f {s o z : Int} {a : Nat} (ha : a ≠ 118) : rpJ J s o z a = J a := rowU_ne ha
theorem rp_r {s o z : Int} : rpJ J s o z 118 = up1 (J 118) (120 * s + o) z := rowU_eq
theorem rp_sa {s o z : Int} : sa (rpJ J s o z) s o = rpY o z ∧ ∀ a, a ≠ o → sa (rpJ J s o z) s a = sa J s a := by
  unfold sa rpY
  rw [rp_r, up1_eq]
  refine ⟨rfl, fun a ha => ?_⟩
  rw [up1_ne (by omega)]
theorem rp_Es {s o z : Int} : (∀ b, Es (rpJ J s o z) s 1 o b ↔ Sb J (rpY o z) (J 96 (rpY o z)) b) ∧ ∀ a b, a ≠ o → (Es (rpJ J s o z) s 1 a b ↔ Es J s 1 a b) := by
  have f : ∀ a, 94 ≤ a ∧ a ≤ 98 → rpJ J s o z a = J a := fun a ha => rp_f (by omega)
  obtain ⟨q1, q2⟩ := rp_sa (J := J) (s := s) (o := o) (z := z)
  refine ⟨fun b => ?_, fun a b ha => ?_⟩
  · unfold Es
    rw [c_Sb f, f 96 (by decide), q1]
    exact ⟨And.right, fun q => ⟨Or.inl (by decide), q⟩⟩
  · unfold Es
    rw [c_Sb f, f 96 (by decide), q2 a ha]
    exact ⟨fun q => ⟨Or.inl (by decide), q.2⟩, fun q => ⟨Or.inl (by decide), q.2⟩⟩
theorem rp_w {s o z : Int} (V : INV n J) (hs : s = 0 ∨ s = 1) (ho : Vs J o) (hz : 0 ≤ z ∧ z ≤ J 94 0) (hk : z ≠ 0 → J 95 (z - 1) = 2) : RB (rpJ J s o z) ∧ WN (rpJ J s o z) ∧ WV (rpJ J s o z) ∧ ∀ i, 0 ≤ i → i < rpJ J s o z 94 0 → rpJ J s o z 95 i ≠ 2 → rpJ J s o z 118 (120 * s + i) = 0 := by
  have f : ∀ a, 94 ≤ a ∧ a ≤ 98 → rpJ J s o z a = J a := fun a ha => rp_f (by omega)
  have hT := iv_t V
  have o1 := ho.1
  refine ⟨c_RB f (iv_R V), fun j => ?_, ⟨c_V1 f (iv_V1 V), fun u i hu i0 i1 ik q => ?_⟩, fun i i0 i1 ik => ?_⟩
  · rw [rp_r]
    by_cases c : j = 120 * s + o
    · rw [c, up1_eq]; omega
    · rw [up1_ne c]; exact (iv_T V).2.2.1 j
  · rw [f 94 (by decide)] at i1 ⊢
    rw [f 95 (by decide)] at ik ⊢
    rw [rp_r] at q ⊢
    by_cases c : 120 * u + i = 120 * s + o
    · rw [c, up1_eq] at q ⊢
      exact ⟨by omega, hk q⟩
    · rw [up1_ne c] at q ⊢
      exact (iv_WV V).2 u i hu i0 i1 ik q
  · rw [f 94 (by decide)] at i1
    rw [f 95 (by decide)] at ik
    rw [rp_r]
    by_cases c : i = o
    · subst c; exact absurd ho.2 ik
    · rw [up1_ne (by omega)]; exact iv_V8 V hs i i0 i1 ik
theorem rp_A {s o z : Int} (V : INV n J) (hs : s = 0 ∨ s = 1) (nq : ¬Cl (Es J s 1) (Sb J (rpY o z) (J 96 (rpY o z))) o) : ∀ k b, Vs (rpJ J s o z) k → Es (rpJ J s o z) s 1 k b → ¬Cl (Es (rpJ J s o z) s 1) (fun j => j = b) k := by
  obtain ⟨e1, e2⟩ := rp_Es (J := J) (s := s) (o := o) (z := z)
  intro k b vk
  rw [c_Vs (fun a ha => rp_f (by omega))] at vk
  exact rel_a (P := Vs J) e2 e1 nq (iv_A V hs 1) k b vk
theorem rp_C {s o z : Int} (ho : Vs J o) (q : Cl (Es J s 1) (Sb J (rpY o z) (J 96 (rpY o z))) o) : ∃ k b, Vs (rpJ J s o z) k ∧ Es (rpJ J s o z) s 1 k b ∧ Cl (Es (rpJ J s o z) s 1) (fun j => j = b) k := by
  obtain ⟨e1, e2⟩ := rp_Es (J := J) (s := s) (o := o) (z := z)
  obtain ⟨b, sb, c⟩ := rel_f e2 q
  exact ⟨o, b, by rw [c_Vs (fun a ha => rp_f (by omega))]; exact ho, (e1 b).mpr sb, c⟩
noncomputable def reC (J : Nat → Int → Int) (s x y : Int) : Int := ic (p1 J s x y) (ic (p2 J x y) (ic (p3 J s x y) 0 3) 2) 1
noncomputable def reK (J : Nat → Int → Int) (s x y : Int) : Nat → Int → Int := iP (p1 J s x y ∧ p2 J x y ∧ p3 J s x y) (rP J s (fnd J x) (fnd J y + 1)) J
theorem re_Y {x y : Int} (V : INV n J) : rpY (fnd J x) (fnd J y + 1) = fnd J (if y = -1 then x else y) ∨ (y ≠ -1 ∧ ¬0 ≤ fnd J y) := by
  have fy := fnd_lt (I := J) (x := y) (iv_t V).1
  unfold rpY
  by_cases c : y = -1
  · left
    rw [c, fnd_n V, if_pos (by decide), if_pos rfl]
  · by_cases d : 0 ≤ fnd J y
    · left
      rw [if_neg (by omega), if_neg c]
      omega
    · exact Or.inr ⟨c, d⟩
theorem IVX_rP {s o z : Int} (V : INV n J) (hs : s = 0 ∨ s = 1) (ho : Vs J o) (hz : 0 ≤ z ∧ z ≤ J 94 0) (hk : z ≠ 0 → J 95 (z - 1) = 2) (nq : ¬Cl (Es J s 1) (Sb J (rpY o z) (J 96 (rpY o z))) o) : IVX n (rP J s o z) ∧ (∀ u, u = 0 ∨ u = 1 → u ≠ s → SU J (rP J s o z) u) ∧ ∀ a, (a < 101 ∨ (107 < a ∧ a < 110) ∨ (110 < a ∧ a < 118) ∨ a = 119 ∨ 122 < a) → rP J s o z a = J a := by
  have T := iv_T V
  have hT := iv_t V
  have o1 := ho.1
  obtain ⟨D, hD⟩ : ∃ D, D = dO J s 4 0 := ⟨_, rfl⟩
  obtain ⟨M, hM⟩ : ∃ M, M = rowU D 118 (up1 (J 118) (120 * s + o) z) := ⟨_, rfl⟩
  have fD : ∀ a, a < 101 ∨ (107 < a ∧ a < 110) ∨ (110 < a ∧ a < 120) ∨ 122 < a → D a = J a := fun a ha => by rw [hD]; exact dO_f ha
  have fM : ∀ a, a ≠ 118 → M a = D a := fun a ha => by rw [hM, rowU_ne ha]
  have M118 : M 118 = up1 (J 118) (120 * s + o) z := by rw [hM, rowU_eq]
  have e : rP J s o z = kN M s (M 104 s) := by
    unfold rP
    rw [fM 104 (by decide), hM, hD]
  obtain ⟨rR, rN, rV, r8⟩ := rp_w (s := s) (z := z) V hs ho hz hk
  have eMJ : ∀ a, a ≠ 118 → (a < 101 ∨ (107 < a ∧ a < 110) ∨ (110 < a ∧ a < 120) ∨ 122 < a) → M a = rpJ J s o z a := fun a h1 h2 => by rw [fM a h1, fD a h2, rp_f h1]
  have M8 : M 118 = rpJ J s o z 118 := by rw [M118, rp_r]
  have SM : ∀ u, u = 0 ∨ u = 1 → u ≠ s → SU D M u := fun u hu hn b b0 b1 j j0 j1 => by
    by_cases c : b = 118
    · subst c
      rw [show wd 118 = 120 from rfl] at j0 j1
      rw [M118, up1_ne (by omega), fD 118 (by decide)]
    · rw [fM b c]
  have nt0 := iv_nt V hs
  have nt : NtC M s := by
    have fB : ∀ a, 94 ≤ a ∧ a ≤ 98 → M a = J a := fun a ha => by rw [fM a (by omega), fD a (by omega)]
    refine ⟨fun k k0 k1 => ?_, fun i i0 i1 => ?_, fun i i0 i1 q => ?_, cU (rpJ J s o z) s 1, fun a c va sb => ?_⟩
    · rw [fM 115 (by decide), fD 115 (by decide), fB 94 (by decide), fB 95 (by decide)]
      exact nt0.1 k k0 k1
    · rw [M118, c_Vs fB, fB 94 (by decide), fB 95 (by decide)]
      dsimp only
      by_cases d : i = o
      · subst d
        rw [up1_eq]
        exact ⟨hz, fun q => ⟨ho, hk q⟩⟩
      · rw [up1_ne (by omega)]
        exact nt0.2.1 i i0 i1
    · rw [fM 116 (by decide), fD 116 (by decide)] at q
      rw [c_Vs fB]
      exact nt0.2.2.1 i i0 i1 q
    · have va2 : Vs (rpJ J s o z) a := by
        rw [c_Vs fB] at va
        rw [c_Vs (J := J) (fun a ha => rp_f (by omega))]
        exact va
      have es : Es (rpJ J s o z) s 1 a c := by
        refine ⟨Or.inl (by decide), ?_⟩
        have e1 : sbv (fun o => M 118 (120 * s + o)) a = sa (rpJ J s o z) s a := by
          unfold sbv sa
          rw [M8]
        rw [e1, c_Sb fB, fB 96 (by decide)] at sb
        rw [c_Sb (J := J) (fun a ha => rp_f (by omega)), rp_f (a := 96) (by decide)]
        exact sb
      have := cU_s rR.1 rN rV hs (rp_A V hs nq) va2 es
      omega
  have X : IVX n (kN M s (M 104 s)) := IVX_nt (o := 0) (IVX_of V) hs (fun a h1 h2 => by rw [fM a (by omega), hD]) (fun u hu hn => by rw [← hD]; exact SM u hu hn) (by rw [fM 116 (by decide), fD 116 (by decide)]; exact iv_116 V) (by rw [fM 117 (by decide), fD 117 (by decide)]; exact iv_117 V) (by unfold WN; rw [M8]; exact rN) nt (c_WG (J := J) (fun a ha => by rw [fM a (by omega), fD a (by omega)]) (iv_G V)) (by rw [fM 119 (by decide), fD 119 (by decide)]; exact Int.le_refl _) (by rw [fM 119 (by decide), fD 119 (by decide)]; exact iv_l V hs) (Int.le_refl _)
  have h30 := dO_104 (s := s) (a := 4) (o := 0) (T.2.2.2.2.2.1 s hs)
  rw [e]
  refine ⟨X, fun u hu hn => ?_, fun a ha => by rw [kN_f (by omega) (by omega) (by omega), fM a (by omega), fD a (by omega)]⟩
  refine SU_t (SU_t (SU_dO (s := s) (a := 4) (o := 0) T hu hs hn) ?_) (SU_kN (J := M) (s := s) (t := M 104 s) (by rw [fM 104 (by decide), hD]; exact h30) hu hs hn)
  rw [← hD]
  exact SM u hu hn
theorem re_N {s o z : Int} (E : EV n h I J) (hs : s = 0 ∨ s = 1) (hz : -1 ≤ z ∧ z < J 94 0) : BC (zu2 I (sto s + 9) o z) (rpJ J s o (z + 1)) ∧ NC (zu2 I (sto s + 9) o z) (rpJ J s o (z + 1)) (sto s + 7) s := by
  have st := sto_o (s := s)
  have N0 := ev_N E hs
  have Af : ∀ c, c ≠ sto s + 9 → zu2 I (sto s + 9) o z c = I c := fun c hc => by rw [zu2_row, rowU_ne hc]
  have A9 : zu2 I (sto s + 9) o z (sto s + 9) = up1 (I (sto s + 9)) o z := by rw [zu2_row, rowU_eq]
  refine ⟨?_, fun k k0 k1 => ?_, ?_, fun i i0 i1 => ⟨?_, ?_, ?_⟩⟩
  · rw [BC_J (J := J) (by rw [rp_f (by decide)]) (rp_f (by decide)) (rp_f (by decide)) (rp_f (by decide)) (rp_f (by decide)), BC_I (I := I) (fun c hc => Af c (by omega))]
    exact ev_B E
  · rw [rp_f (by decide), Af _ (by omega)]; exact N0.1 k k0 k1
  · rw [rp_f (by decide), Af _ (by omega)]; exact N0.2.1
  · show zu2 I (sto s + 9) o z (sto s + 9) i = rpJ J s o (z + 1) 118 (120 * s + i) - 1
    rw [rp_r, A9]
    by_cases d : i = o
    · subst d; rw [up1_eq, up1_eq]; omega
    · rw [up1_ne d, up1_ne (by omega)]; exact (N0.2.2 i i0 i1).1
  · rw [rp_f (by decide), Af _ (by omega)]; exact (N0.2.2 i i0 i1).2.1
  · rw [rp_f (by decide), Af _ (by omega)]; exact (N0.2.2 i i0 i1).2.2
theorem re_1 {s x y o z : Int} {v7 v8 : MV} (E : EV n h I J) (hs : s = 0 ∨ s = 1) (vo : Vs J o) (zb : -1 ≤ z ∧ z < J 94 0) (zk : z + 1 ≠ 0 → J 95 (z + 1 - 1) = 2) (q : Cl (Es J s 1) (Sb J (rpY o (z + 1)) (J 96 (rpY o (z + 1)))) o) :
    ∃ g, Go 121 35 [.inr (.inl (some 1)), .inl s, .inl x, .inl y, .inr (.inl (some ((sto s)))), .inl o, .inl z, v7, v8] [] (mI h I) = some (mI (hThr h) (rowU I 77 g), .inr 2) := by
  have st := sto_o (s := s)
  have L4 := ly_4 E.1 st
  have V := ev_V E
  have vo1 := vo.1
  have hT := iv_t V
  obtain ⟨rR, rN, rV, r8⟩ := rp_w (s := s) (o := o) (z := z + 1) V hs vo (by omega) zk
  have e9 : I (sto s + 9) o = J 118 (120 * s + o) - 1 := ((ev_N E hs).2.2 o (by omega) (by omega)).1
  obtain ⟨BA, NA⟩ := re_N (o := o) E hs zb
  obtain ⟨A, hA⟩ : ∃ A, A = zu2 I (sto s + 9) o z := ⟨_, rfl⟩
  rw [← hA] at BA NA
  obtain ⟨g, e96⟩ := k96f (h := h) (I := A) (J := rpJ J s o (z + 1)) (n := sto s + 7) (s := s) (d := 1) (v3 := vU) (v4 := vU) (v5 := vU) (ly_0 E.1) (ly_76 E.1) L4 (by omega) BA rR NA rN rV r8 hs (Or.inr rfl) (rp_C vo q)
  rw [Int.sub_self] at e96
  have back : zu2 (rowU A 77 g) (sto s + 7 + 2) o (J 118 (120 * s + o) - 1) = rowU I 77 g := by
    rw [zu2_row]
    show rowU (rowU A 77 g) (sto s + 9) (up1 (rowU A 77 g (sto s + 9)) o (J 118 (120 * s + o) - 1)) = _
    have n7 : sto s + 9 ≠ 77 := by omega
    have u : up1 (rowU A 77 g (sto s + 9)) o (J 118 (120 * s + o) - 1) = I (sto s + 9) := by
      rw [rowU_ne n7, hA, zu2_row, rowU_eq]
      funext i
      by_cases d : i = o
      · subst d; rw [up1_eq, e9]
      · rw [up1_ne d, up1_ne d]
    rw [u, hA, zu2_row]
    funext c
    by_cases c1 : c = sto s + 9
    · subst c1; rw [rowU_eq, rowU_ne n7]
    · rw [rowU_ne c1]
      by_cases c2 : c = 77
      · subst c2; rw [rowU_eq, rowU_eq]
      · rw [rowU_ne c2, rowU_ne c1, rowU_ne c2]
  refine ⟨g, ?_⟩
  rw [b121_35 (ly_8 E.1 st) (ly_3 E.1 st) L4 (by omega) (ly_10 E.1) (ly_76 E.1), e9, ← hA, e96, caln_r, b121_54, if_neg (fun t => t rfl), b121_55 L4 (by omega), back]
theorem re_2 {s x y o z : Int} {v7 v8 : MV} (E : EV n h I J) (hs : s = 0 ∨ s = 1) (vo : Vs J o) (zb : -1 ≤ z ∧ z < J 94 0) (zk : z + 1 ≠ 0 → J 95 (z + 1 - 1) = 2) (q : ¬Cl (Es J s 1) (Sb J (rpY o (z + 1)) (J 96 (rpY o (z + 1)))) o) :
    ∃ h1 I1, Go 121 35 [.inr (.inl (some 1)), .inl s, .inl x, .inl y, .inr (.inl (some ((sto s)))), .inl o, .inl z, v7, v8] [] (mI h I) = some (mI h1 I1, .inl (some (.inl (nm J (J 118 (120 * s + o)))))) ∧ RS h I h1 I1 (rP J s o (z + 1)) ∧ RD2 (rP J s o (z + 1)) := by
  have st := sto_o (s := s)
  have L4 := ly_4 E.1 st
  have L3 := ly_3 E.1 st
  have V := ev_V E
  have T := iv_T V
  have vo1 := vo.1
  have hT := iv_t V
  obtain ⟨XR, SR, fR⟩ := IVX_rP (z := z + 1) V hs vo (by omega) zk q
  have wr : 0 ≤ J 118 (120 * s + o) ∧ J 118 (120 * s + o) ≤ J 94 0 := ⟨((iv_T V).2.2.1 _).1, iv_WRp V s o hs vo1.1 vo1.2⟩
  have e9 : I (sto s + 9) o = J 118 (120 * s + o) - 1 := ((ev_N E hs).2.2 o (by omega) (by omega)).1
  obtain ⟨rR, rN, rV, r8⟩ := rp_w (s := s) (o := o) (z := z + 1) V hs vo (by omega) zk
  obtain ⟨BA, NA⟩ := re_N (o := o) E hs zb
  obtain ⟨A, hA⟩ : ∃ A, A = zu2 I (sto s + 9) o z := ⟨_, rfl⟩
  rw [← hA] at BA NA
  have Af : ∀ c, c ≠ sto s + 9 → A c = I c := fun c hc => by rw [hA, zu2_row, rowU_ne hc]
  obtain ⟨g, e96, _, _⟩ := k96t (h := h) (I := A) (J := rpJ J s o (z + 1)) (n := sto s + 7) (s := s) (d := 1) (v3 := vU) (v4 := vU) (v5 := vU) (ly_0 E.1) (ly_76 E.1) L4 (by omega) BA rR NA rN rV r8 hs (Or.inr rfl) (rp_A V hs q)
  rw [Int.sub_self] at e96
  have Cs := ev_s E hs
  have O := E.2.1
  have n140 := O.1
  obtain ⟨G, hG⟩ : ∃ G, G = rowU A 77 g := ⟨_, rfl⟩
  have Gf : ∀ c, c ≠ 77 → c ≠ sto s + 9 → G c = I c := fun c c1 c2 => by rw [hG, rowU_ne c1, Af c c2]
  have GA : ∀ c, c ≠ 77 → G c = A c := fun c c1 => by rw [hG, rowU_ne c1]
  obtain ⟨D, hD⟩ : ∃ D, D = dO J s 4 0 := ⟨_, rfl⟩
  obtain ⟨M, hM⟩ : ∃ M, M = rowU D 118 (up1 (J 118) (120 * s + o) (z + 1)) := ⟨_, rfl⟩
  have fD : ∀ a, a < 101 ∨ (107 < a ∧ a < 110) ∨ (110 < a ∧ a < 120) ∨ 122 < a → D a = J a := fun a ha => by rw [hD]; exact dO_f ha
  have fM : ∀ a, a ≠ 118 → M a = D a := fun a ha => by rw [hM, rowU_ne ha]
  have M8 : M 118 = rpJ J s o (z + 1) 118 := by rw [hM, rowU_eq, rp_r]
  have eM : ∀ a, (a = 115 ∨ a = 116 ∨ a = 117 ∨ a = 119) → M a = rpJ J s o (z + 1) a := fun a ha => by rw [fM a (by omega), fD a (by omega), rp_f (by omega)]
  have NM : NC G M (sto s + 1 + 6) s := by
    unfold NC
    rw [eM 115 (by decide), eM 116 (by decide), eM 117 (by decide), eM 119 (by decide), M8, NO_I (I := A) (n := sto s + 1 + 6) (fun c c0 c1 => GA c (by omega))]
    exact NA
  have DG : DN h G J (sto s + 1) s := DNk_I O (by omega) (fun c hc => Gf c (by omega) (by omega)) (DC_n.mp Cs.1).1
  obtain ⟨h1, I1, e45, D1, R1, O1, X1, r1, f45⟩ := k45 (h := h) (I := G) (J := J) (M := M) (d := sto s + 1) (s := s) (n := 0) (v1 := vU) (by omega) (ly_S E.1) L3 (ly_4k E.1 st) L4 O DG (iv_Q V) T (iv_Z V) (iv_RD V hs) hs (fun c hc => by rw [fM c (by omega), hD]) NM (by rw [eM 116 (by decide), rp_f (by decide)]; exact iv_116 V) (by rw [eM 117 (by decide), rp_f (by decide)]; exact iv_117 V) (by unfold WN; rw [M8]; exact rN)
  have eR : kN M s (M 104 s) = rP J s o (z + 1) := by
    unfold rP
    rw [fM 104 (by decide), hM, hD]
  rw [eR] at D1 R1
  have Y1 := LYB_X X1 E.1
  have own : ∀ c, c < 140 → ∀ k a, hR h (sto s + 1 + 19) k = some a → c < a ∨ a + 4 < c := fun c hc k a ha => by
    have := (O.2.1 _ _ _ (OAr_19 (by omega)) ha).1.1
    omega
  have z20 : owz (sto s + 20) = 4 := if_neg (by omega)
  have S := SR (1 - s) (by omega) (by omega)
  have lo : ∀ c, c ≤ 9 ∨ c = sto s ∨ (sto s + 21 ≤ c ∧ c ≤ sto s + 31) → I1 c = I c := fun c hc => by rw [f45 c (by omega) (by omega) (own c (by omega)), Gf c (by omega) (by omega)]
  have B1 : BC I1 J := by
    rw [BC_I (I := I) (fun c hc => lo c (by omega))]
    exact ev_B E
  have CSd : CS h1 I1 (rP J s o (z + 1)) (sto s) s := by
    refine ⟨D1, ?_, ?_⟩
    · rw [SC_J (J := J) (fun a ha => fR a (by omega)), SC_I (I := I) (fun c hc => lo c (by omega))]
      exact Cs.2.1
    · rw [CC_I (I := I) (fun c c0 c1 => lo c (by omega))]
      exact CC_f (fun a ha => fR a (by omega)) Cs.2.2
  have E77 : EV n h (rowU I 77 g) J := EV_fr E (fun c c1 _ _ _ _ _ => rowU_ne c1)
  refine ⟨h1, I1, ?_, RS_tr (I0 := rowU I 77 g) (fun c c0 c1 => rowU_ne (by omega)) (RS_nt E77 hs (fun a ha => fR a (by omega)) S CSd X1 (by decide) (by decide) O1 (fun x k ox _ hx => r1 x k ox hx) (fun c hc hN ha => ?_)), RD2_of V hs S R1⟩
  · rw [b121_35 (ly_8 E.1 st) L3 L4 (by omega) (ly_10 E.1) (ly_76 E.1), e9, ← hA, e96, caln_r, b121_54, if_pos neg1_ne, ← hG, b121_61 (ly_8 E.1 st) L3, e45, caln_v, b121_64 (ly_10 Y1) (ly_0 Y1), k4 (ly_0 Y1) B1 (iv_R V), caln_r, b121_68, nm_O V wr]
  · rw [f45 c (by omega) hN (fun k a hka => by
      have := ha (sto s + 20) k a (Or.inr rfl) hka
      rw [z20] at this
      exact this)]
    by_cases c7 : c = 77
    · subst c7; rw [hG, rowU_eq, rowU_eq]
    · rw [Gf c c7 (by omega), rowU_ne c7]
theorem k121 {s x y : Int} {v4 v5 v6 v7 v8 : MV} (E : EV n h I J) : ∃ h1 I1, Go 121 0 [.inr (.inl (some 1)), .inl s, .inl x, .inl y, v4, v5, v6, v7, v8] [] (mI h I) = some (mI h1 I1, oc eA (reC J s x y) (nm J (J 118 (120 * s + fnd J x)))) ∧ RS h I h1 I1 (reK J s x y) ∧ RD2 (reK J s x y) := by
  have L10 := ly_10 E.1
  have L0 := ly_0 E.1
  have V := ev_V E
  have R := iv_R V
  have hT := iv_t V
  unfold reC reK
  by_cases hs : s = 0 ∨ s = 1
  · by_cases hx : 0 ≤ fnd J x
    · by_cases hy : y = -1 ∨ 0 ≤ fnd J y
      · have P1 : p1 J s x y := ⟨hs, hx, hy⟩
        have fx := fr_t V hx
        have fl := fnd_lt (I := J) (x := y) hT.1
        have kx : kdO J (fnd J x) = J 95 (fnd J x) := kdO_t fx
        rw [ic_t P1, b121_0 L10, k142 E.1 hs, caln_r, b121_3 L10, k144 E hx, caln_r, b121_7 L10, k145 E hy, caln_r, b121_11 L10 L0, k3 L0 (ev_B E) R, caln_r, kx, b121_16]
        have vz : (y = -1 ∨ kI J y 2) ↔ (fnd J y = -1 ∨ kdO J (fnd J y) = 2) := by
          constructor
          · rintro (q | q)
            · left; rw [q]; exact fnd_n V
            · right; rw [kdO_t (fr_t V q.1)]; exact q.2
          · rintro (q | q)
            · left
              exact hy.resolve_right (by omega)
            · by_cases c : 0 ≤ fnd J y
              · exact Or.inr ⟨c, by rw [← kdO_t (fr_t V c)]; exact q⟩
              · exact Or.inl (hy.resolve_right c)
        have ne : x ≠ y ↔ fnd J x ≠ fnd J y := by
          constructor
          · intro q r
            by_cases c : 0 ≤ fnd J y
            · have e1 := (fnd_lt (I := J) (x := x) hT.1).2.2 hx
              have e2 := fl.2.2 c
              rw [r, e2] at e1
              exact q e1.symm
            · omega
          · intro q r
            rw [r] at q
            exact q rfl
        by_cases p : p2 J x y
        · have k2 : J 95 (fnd J x) = 2 := p.1.2
          have vo : Vs J (fnd J x) := ⟨fx, k2⟩
          have hv := vz.mp p.2.1
          have zb : -1 ≤ fnd J y ∧ fnd J y < J 94 0 := ⟨fl.1, fl.2.1⟩
          have zk : fnd J y + 1 ≠ 0 → J 95 (fnd J y + 1 - 1) = 2 := fun q => by
            rw [show fnd J y + 1 - 1 = fnd J y by omega]
            obtain r | r := hv
            · rw [r] at q; exact absurd rfl q
            · by_cases c : 0 ≤ fnd J y
              · rw [kdO_t (fr_t V c)] at r; exact r
              · have : fnd J y = -1 := by have := zb.1; clear r vz ne; omega
                rw [this] at q; exact absurd rfl q
          have yy : rpY (fnd J x) (fnd J y + 1) = fnd J (if y = -1 then x else y) := (re_Y V).resolve_right (fun q => hy.elim q.1 q.2)
          have tq : Tu J s (fnd J x) (fnd J (if y = -1 then x else y)) ↔ Cl (Es J s 1) (Sb J (rpY (fnd J x) (fnd J y + 1)) (J 96 (rpY (fnd J x) (fnd J y + 1)))) (fnd J x) := by
            unfold Tu
            rw [yy]
          have tail : ∀ I0, EV n h I0 J → (∀ c, 94 ≤ c → c ≤ 139 → I0 c = I c) → (y ≠ -1 → Wh J s (fnd J y)) → ∃ h1 I1, Go 121 35 [.inr (.inl (some 1)), .inl s, .inl x, .inl y, .inr (.inl (some ((sto s)))), .inl (fnd J x), .inl (fnd J y), v7, v8] [] (mI h I0) = some (mI h1 I1, oc eA (ic (p3 J s x y) 0 3) (nm J (J 118 (120 * s + fnd J x)))) ∧ RS h I h1 I1 (iP (p1 J s x y ∧ p2 J x y ∧ p3 J s x y) (rP J s (fnd J x) (fnd J y + 1)) J) ∧ RD2 (iP (p1 J s x y ∧ p2 J x y ∧ p3 J s x y) (rP J s (fnd J x) (fnd J y + 1)) J) := fun I0 E0 hI0 hw => by
            by_cases q : Cl (Es J s 1) (Sb J (rpY (fnd J x) (fnd J y + 1)) (J 96 (rpY (fnd J x) (fnd J y + 1)))) (fnd J x)
            · have np : ¬p3 J s x y := fun t => t.2 (tq.mpr q)
              obtain ⟨g, e⟩ := re_1 (x := x) (y := y) (v7 := v7) (v8 := v8) E0 hs vo zb zk q
              rw [ic_f np, iP_f (fun t => np t.2.2), e]
              exact ⟨hThr h, rowU I0 77 g, rfl, RS_t (RS_e (EV_fr E0 (fun c c1 _ _ _ _ _ => rowU_ne c1)) (fun c c0 c1 => by rw [rowU_ne (fun e77 => by rw [e77] at c0; exact absurd c0 (by decide)), hI0 c c0 c1])) (XT_w (XT_r h) (by decide) (by decide)), RD2_r V⟩
            · have pp : p3 J s x y := ⟨hw, fun t => q (tq.mp t)⟩
              obtain ⟨h1, I1, e, r1, x1⟩ := re_2 (x := x) (y := y) (v7 := v7) (v8 := v8) E0 hs vo zb zk q
              rw [ic_t pp, iP_t ⟨P1, p, pp⟩, e]
              exact ⟨h1, I1, rfl, RS_tr hI0 r1, x1⟩
          rw [ic_t p, if_neg (fun t => t k2), b121_18 L10, k149 E, caln_r, b01_t hv, b121_21, if_neg neg1_ne, b121_22, if_pos (ne.mp p.2.2), b121_26]
          by_cases y1 : fnd J y = -1
          · have ym : y = -1 := hy.resolve_right (by rw [y1]; decide)
            rw [if_pos y1]
            exact tail I E (fun _ _ _ => rfl) (fun t => absurd ym t)
          · have hzr : 0 ≤ fnd J y ∧ fnd J y < J 94 0 := by have := zb; clear vz ne tq tail; omega
            have Cr : S1 (Cl (Eg J s) (fun j => j = fnd J y)) := SL_1 E (fun j q => Cl_lt R.1 (fun j q => by rw [q]; exact hzr) j q)
            rw [if_neg y1, b121_29 L10, k154 E hs hzr, caln_r, b121_33]
            by_cases w : Wh J s (fnd J y)
            · rw [b01_t w, if_pos neg1_ne]
              exact tail _ (EV_75 E Cr) (fun c c0 c1 => rowU_ne (fun e => by rw [e] at c0; exact absurd c0 (by decide))) (fun _ => w)
            · have np : ¬p3 J s x y := fun t => w (t.1 (fun q => y1 (by rw [q]; exact fnd_n V)))
              rw [ic_f np, iP_f (fun t => np t.2.2)]
              exact ⟨hThr h, _, by rw [b01_f w, if_neg (fun t => t rfl), b121_34]; rfl, RS_75x E Cr, RD2_r V⟩
        · rw [ic_f p, iP_f (fun t => p t.2.1)]
          refine ⟨hThr h, I, ?_, RS_x E, RD2_r V⟩
          have bad : Go 121 25 [.inr (.inl (some 1)), .inl s, .inl x, .inl y, .inr (.inl (some ((sto s)))), .inl (fnd J x), .inl (fnd J y), v7, v8] [] (mI h I) = some (mI (hThr h) I, .inr 1) := by rw [b121_25]
          by_cases k2 : J 95 (fnd J x) = 2
          · rw [if_neg (fun t => t k2), b121_18 L10, k149 E, caln_r, b121_21]
            by_cases hv : fnd J y = -1 ∨ kdO J (fnd J y) = 2
            · rw [b01_t hv, if_neg neg1_ne, b121_22, if_neg (fun t => p ⟨⟨hx, k2⟩, vz.mpr hv, ne.mpr t⟩), bad]; rfl
            · rw [b01_f hv, if_pos rfl, bad]; rfl
          · rw [if_pos k2, bad]; rfl
      · have P1 : ¬p1 J s x y := fun q => hy q.2.2
        rw [iP_f (fun q => P1 q.1), ic_f P1]
        exact ⟨hThr h, I, by rw [b121_0 L10, k142 E.1 hs, caln_r, b121_3 L10, k144 E hx, caln_r, b121_7 L10, k145x E hy, caln_x]; rfl, RS_x E, RD2_r V⟩
    · have P1 : ¬p1 J s x y := fun q => hx q.2.1
      rw [iP_f (fun q => P1 q.1), ic_f P1]
      exact ⟨hThr h, I, by rw [b121_0 L10, k142 E.1 hs, caln_r, b121_3 L10, k144x E hx, caln_x]; rfl, RS_x E, RD2_r V⟩
  · have P1 : ¬p1 J s x y := fun q => hs q.1
    rw [iP_f (fun q => P1 q.1), ic_f P1]
    exact ⟨hThr h, I, by rw [b121_0 L10, k142x hs, caln_x]; rfl, RS_x E, RD2_r V⟩
theorem aw_p1 {s x y : Int} (g : AW I J) : p1 J s x y = p1 I s x y := by
  unfold p1
  rw [aw_fnd g]
theorem aw_p2 {x y : Int} (g : AW I J) : p2 J x y = p2 I x y := by
  unfold p2
  rw [aw_kI g]
theorem aw_p3 {s x y : Int} (g : AW I J) : p3 J s x y = p3 I s x y := by
  unfold p3 Tu
  rw [aw_fnd g, aw_Wh g, aw_Es g, aw_Sb g, g.1 96 (by decide) (by decide)]
theorem s121 {s x y : Int} (E : EV n h I I) (S : WSc I) : STEP 121 [.inr (.inl (some 1)), .inl s, .inl x, .inl y, vU, vU, vU, vU, vU] 228 [.inr (.inl (some 94)), .inl s, .inl x, .inl y, vU, vU, vU, vU] eA n h I :=
  STEP_mkx (c := fun J => reC J s x y) (v := fun J => nm J (J 118 (120 * s + fnd J x))) (K := fun J => reK J s x y) (X := RD2) E S eA_i (fun J => by unfold reC; have := ic_r (p := p1 J s x y) (ic_r (p := p2 J x y) (ic_r (p := p3 J s x y) (x := 0) (y := 3) (by decide) (by decide)) (y := 2) (by decide)) (y := 1) (by decide); omega) (fun J E => k121 E)
    (fun h2 I2 L V S => by
      obtain ⟨P, hP, e⟩ := r228 (h := h2) (I := I2) (s := s) (x := x) (y := y) (v4 := vU) (v5 := vU) (v6 := vU) (v7 := vU) L (iv_T V) (iv_WV V) (WSc_133e S)
      obtain ⟨J, hJ⟩ : ∃ J, J = rowU (tH I2 0) 133 (ind P) := ⟨_, rfl⟩
      have g : AW I2 J := by rw [hJ]; exact AW_U (AW_t (AW_r I2)) (Or.inl (by decide))
      have V2 : INV n J := by rw [aw_INV g]; exact V
      have f : ∀ a, a ≠ 94 → a ≠ 133 → J a = I2 a := fun a h1 h2 => by rw [hJ, rowU_ne h2, tH_n h1]
      have j49 : J 94 49 = 0 := by rw [hJ, rowU_ne (by decide), tH_49]
      have W : WSc J := by rw [hJ]; exact WSc_133 (WSc_t S) hP
      have bad : ∀ t : Int, AW J (tH I2 t) := fun t => AW_tr (AW_s g) (AW_t (AW_r I2))
      rw [e]
      refine ⟨J, ?_⟩
      unfold reC reK
      dsimp only
      rw [aw_p1 g, aw_p2 g, aw_p3 g, aw_fnd g, f 118 (by decide) (by decide)]
      by_cases c1 : p1 I2 s x y
      · rw [if_pos c1, ic_t c1]
        by_cases c2 : p2 I2 x y
        · rw [if_pos c2, ic_t c2]
          by_cases c3 : p3 I2 s x y
          · have fl := fnd_lt (I := I2) (x := y) (iv_t V).1
            have vx : Vs J (fnd I2 x) := by rw [aw_Vs g]; exact ⟨fr_t V c1.2.1, c2.1.2⟩
            have zk : fnd I2 y + 1 ≠ 0 → J 95 (fnd I2 y + 1 - 1) = 2 := fun q => by
              rw [show fnd I2 y + 1 - 1 = fnd I2 y by omega, f 95 (by decide) (by decide)]
              obtain r | r := c2.2.1
              · rw [r, fnd_n V] at q; omega
              · exact r.2
            have nq : ¬Cl (Es J s 1) (Sb J (rpY (fnd I2 x) (fnd I2 y + 1)) (J 96 (rpY (fnd I2 x) (fnd I2 y + 1)))) (fnd I2 x) := fun q => c3.2 (by
              have yy := (re_Y (x := x) (y := y) V).resolve_right (fun t => c1.2.2.elim t.1 t.2)
              rw [yy, aw_Es g, aw_Sb g, f 96 (by decide) (by decide)] at q
              exact q)
            obtain ⟨XR, SR, fR⟩ := IVX_rP (z := fnd I2 y + 1) V2 c1.1 vx (by rw [aw_0 g]; omega) zk nq
            rw [aq_t c3, ic_t c3, iP_t ⟨c1, c2, c3⟩, ← hJ]
            have en : nm J (I2 118 (120 * s + fnd I2 x)) = nm I2 (I2 118 (120 * s + fnd I2 x)) := by
              unfold nm
              rw [f 98 (by decide) (by decide)]
            exact ⟨_, _, g, rfl, by rw [fR 94 (by decide), j49], fun _ => en.symm, fun a ha => by rw [fR a (by omega), f a (by omega) (by omega)], AW_r _, fun R => INV_x XR rfl R, WSc_k (I := J) (fun a a0 a1 => by rw [fR a (by omega)]) W⟩
          · rw [aq_f c3, ic_f c3, iP_f (fun q => c3 q.2.2)]
            exact ⟨_, _, g, rfl, tH_49, (fun q => absurd q (by decide)), fun a ha => by rw [tH_n (by omega), rowU_ne (by omega)], AW_tr (AW_s g) (AW_t (AW_U (AW_r I2) (Or.inl (by decide)))), fun _ => INV_s V2, WSc_t (WSc_133 S hP)⟩
        · rw [if_neg c2, ic_f c2, iP_f (fun q => c2 q.2.1)]
          exact ⟨_, _, g, rfl, tH_49, (fun q => absurd q (by decide)), fun a ha => tH_n (by omega), bad 2, fun _ => INV_s V2, WSc_t S⟩
      · rw [if_neg c1, ic_f c1, iP_f (fun q => c1 q.1)]
        exact ⟨_, _, g, rfl, tH_49, (fun q => absurd q (by decide)), fun a ha => tH_n (by omega), bad 1, fun _ => INV_s V2, WSc_t S⟩)
end OPS9
