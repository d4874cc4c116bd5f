/-! ===== the calls (16): a pack: what the reference makes ===== -/
section PKR
variable {n m : Int} {J K M : Nat → Int → Int}
/-- only the rows of one pack change -/
def OPx (J K : Nat → Int → Int) (p : Int) : Prop := (∀ q, q ≠ p → K 111 q = J 111 q) ∧ ∀ a, a = 112 ∨ a = 113 ∨ a = 114 → ∀ j, j < 120 * p ∨ 120 * p + 120 ≤ j → K a j = J a j
theorem OPx_t {L : Nat → Int → Int} {p : Int} (a : OPx J K p) (b : OPx K L p) : OPx J L p := ⟨fun q h => (b.1 q h).trans (a.1 q h), fun c hc j hj => (b.2 c hc j hj).trans (a.2 c hc j hj)⟩
theorem OPx_en {p o b : Int} (h0 : 0 ≤ J 111 p ∧ J 111 p < 120) : OPx J (en J p o b) p := by
  refine ⟨fun q hq => by rw [en_111, up1_ne hq], fun a ha j hj => ?_⟩
  obtain rfl | rfl | rfl := ha
  · rw [en_112, up1_ne (by omega)]
  · rw [en_113, up1_ne (by omega)]
  · rw [en_114, up1_ne (by omega)]
theorem OPx_P1 {e : Int → Int} {p o win deep t : Int} (h0 : 0 ≤ J 111 p ∧ J 111 p ≤ 100) : OPx J (P1 J e p o win deep t) p := by
  unfold P1
  split
  · split
    · refine OPx_t (OPx_en (by omega)) (OPx_en ?_)
      rw [en_111, up1_eq]
      omega
    · exact OPx_en (by omega)
  · exact OPx_en (by omega)
theorem OPx_136 {p k v : Int} : OPx J (zu2 J 136 k v) p := by
  rw [zu2_row]
  exact ⟨fun q _ => by rw [rowU_ne (by decide)], fun a ha j _ => by rw [rowU_ne (by omega)]⟩
theorem gm_c {C : Int → Int → Prop} {v e f : Int → Int} {s : Int × Int} : ∀ n : Nat, (∀ i, 0 ≤ i → i < (n : Int) → e i = f i) → gm C v e s n = gm C v f s n
  | 0, _ => rfl
  | n + 1, h => by
    have ih := gm_c (C := C) (v := v) (s := s) n (fun i i0 i1 => h i i0 (by omega))
    unfold gm
    rw [ih, h n (by omega) (by omega)]
theorem P1_e {e f : Int → Int} {p o win deep t : Int} (hT : 0 ≤ J 94 0) (h : ∀ i, 0 ≤ i → i < J 94 0 → e i = f i) : P1 J e p o win deep t = P1 J f p o win deep t := by
  have : b2 J e p o win deep = b2 J f p o win deep := gm_c _ (fun i i0 i1 => h i i0 (by omega))
  unfold P1
  rw [this]
theorem PA_e {a b : Int → Int} {p win deep t : Int} {e : Int → Int} (hT : 0 ≤ M 94 0) (h : ∀ i, 0 ≤ i → i < M 94 0 → a i = b i) : ∀ n : Nat, PA M a p win deep t e n = PA M b p win deep t e n
  | 0 => rfl
  | n + 1 => by
    have ih := PA_e (p := p) (win := win) (deep := deep) (t := t) (e := e) hT h n
    have e94 : zu2 (PA M b p win deep t e n) 136 (e n) 0 94 0 = M 94 0 := by
      rw [zu2_row, rowU_ne (by decide), PA_f (by decide)]
    unfold PA
    rw [ih]
    exact P1_e (by rw [e94]; exact hT) (fun i i0 i1 => h i i0 (by rw [e94] at i1; exact i1))
theorem PG_136 {p k v : Int} {R : Int → Prop} (G : PG J p R) : PG (zu2 J 136 k v) p R := by
  rw [zu2_row]
  refine ⟨by rw [WK_U (by decide)]; exact G.1, ?_, ?_⟩
  · unfold PD
    rw [rowU_ne (by decide), rowU_ne (by decide)]
    exact G.2.1
  · rw [rowU_ne (by decide), rowU_ne (by decide)]
    exact G.2.2
theorem PA_g {A : Int → Int → Prop} {en_ e : Int → Int} {p win deep t c : Int} {P : Int → Prop} (tk : TO P A) (E : Enum P A c e) (hP : ∀ j, P j → 0 ≤ j ∧ j < M 94 0) (hT : 0 ≤ M 94 0 ∧ M 94 0 ≤ 100) (EN : EnN M en_) (hp : 0 ≤ p ∧ p < 40) (G : PG M p P) (hd : t ≠ 0 → ∀ z, M 135 z ≠ 0 → ¬P z) :
    ∀ k : Nat, (k : Int) ≤ c → PG (PA M en_ p win deep t e k) p (fun j => P j ∧ ∀ i, 0 ≤ i → i < (k : Int) → e i ≠ j) ∧ OPx M (PA M en_ p win deep t e k) p := by
  intro k
  induction k with
  | zero =>
    intro _
    refine ⟨⟨G.1, G.2.1, fun k k0 k1 q => G.2.2 k k0 k1 q.1⟩, fun _ _ => rfl, fun _ _ _ _ => rfl⟩
  | succ k ih =>
    intro hk
    obtain ⟨g1, g2⟩ := ih (by omega)
    obtain ⟨X, hX⟩ : ∃ X, X = zu2 (PA M en_ p win deep t e k) 136 (e k) 0 := ⟨_, rfl⟩
    have xf : ∀ a, (a < 111 ∨ 114 < a) ∧ a ≠ 136 → X a = M a := fun a ha => by rw [hX, zu2_row, rowU_ne ha.2, PA_f ha]
    have gX : PG X p (fun j => P j ∧ ∀ i, 0 ≤ i → i < (k : Int) → e i ≠ j) := by rw [hX]; exact PG_136 g1
    have ek := E.1 k (by omega) (by omega)
    have er := hP _ ek
    have EX : EnN X en_ := by
      unfold EnN
      rw [xf 94 (by decide), xf 98 (by decide)]
      exact EN
    have new : P (e k) ∧ ∀ i, 0 ≤ i → i < (k : Int) → e i ≠ e k := ⟨ek, fun i i0 i1 q => by
      have := E.2.1 i k i0 i1 (by omega)
      rw [q] at this
      exact tk.2.2 _ ek this⟩
    have e94 : X 94 0 = M 94 0 := by rw [xf 94 (by decide)]
    have g3 := PG_P1 (win := win) (deep := deep) (t := t) gX (by rw [e94]; exact hT.2) EX hp (by rw [e94]; exact er) new (fun ht z hz q => hd ht z (by rw [xf 135 (by decide)] at hz; exact hz) q.1)
    have eP : PA M en_ p win deep t e (k + 1) = P1 X en_ p (e k) win deep t := by rw [hX]; rfl
    rw [eP]
    refine ⟨⟨g3.1, g3.2.1, fun i i0 i1 q => g3.2.2 i i0 i1 ⟨⟨q.1, fun j j0 j1 => q.2 j j0 (by omega)⟩, fun r => q.2 k (by omega) (by omega) r.symm⟩⟩, ?_⟩
    refine OPx_t g2 (OPx_t (K := X) (by rw [hX]; exact OPx_136) (OPx_P1 ?_))
    exact (gX.1.2 p hp.1 hp.2).1
theorem pkM_r {s : Int} : pkM J s 108 = up1 (J 108) s (J 108 s + 1) ∧ pkM J s 111 = up1 (J 111) (20 * s + J 108 s) 0 ∧ ∀ a, a ≠ 108 → a ≠ 111 → pkM J s a = J a := by
  unfold pkM
  exact ⟨by rw [rowU_ne (by decide), rowU_eq], by rw [rowU_eq], fun a h1 h2 => by rw [rowU_ne h2, rowU_ne h1]⟩
noncomputable def eKO (J : Nat → Int → Int) (P : Int → Prop) : Int → Int := @Classical.epsilon (Int → Int) ⟨fun _ => 0⟩ (Enum P (KO J) (cN P (J 94 0).toNat))
theorem eKO_s {P : Int → Prop} (D : NmD J) (hT : 0 ≤ J 94 0) (hP : ∀ j, P j → 0 ≤ j ∧ j < J 94 0) : Enum P (KO J) (cN P (J 94 0).toNat) (eKO J P) := @Classical.epsilon_spec _ (Enum P (KO J) (cN P (J 94 0).toNat)) (Enum_ex (TO_KO D hP) hP hT)
/-- what is known of the new pack -/
theorem pk_G {s win deep t : Int} {P : Int → Prop} (V : INV n J) (hs : s = 0 ∨ s = 1) (hm : J 108 s < 20) (h6 : J 136 = ind P) (hP : ∀ j, P j → 0 ≤ j ∧ j < J 94 0) (hd : t ≠ 0 → ∀ z, J 135 z ≠ 0 → ¬P z) :
    PG (pkM J s) (20 * s + J 108 s) P ∧ pkX J (enm J) (eKO J P) s win deep t = PA (pkM J s) (enm J) (20 * s + J 108 s) win deep t (eKO J P) (cN P (J 94 0).toNat).toNat ∧ PG (pkX J (enm J) (eKO J P) s win deep t) (20 * s + J 108 s) (fun _ => False) ∧ OPx (pkM J s) (pkX J (enm J) (eKO J P) s win deep t) (20 * s + J 108 s) := by
  have T := iv_T V
  have hT := iv_t V
  have hms := T.2.2.2.1.1 s hs
  obtain ⟨r8, r11, rf⟩ := pkM_r (J := J) (s := s)
  have m94 : pkM J s 94 0 = J 94 0 := by rw [rf 94 (by decide) (by decide)]
  have hcn : cN (fun z => J 136 z ≠ 0) (J 94 0).toNat = cN P (J 94 0).toNat := cN_c _ (fun k _ _ => by rw [h6, ne_eq, ind_at, Classical.not_not])
  have G : PG (pkM J s) (20 * s + J 108 s) P := by
    refine ⟨⟨fun u hu => ?_, fun q q0 q1 => ?_⟩, fun i j i0 ij jm => ?_, fun k k0 k1 => ?_⟩
    · have := T.2.2.2.1.1 u hu
      rw [r8]
      by_cases e : u = s
      · subst e; rw [up1_eq]; omega
      · rw [up1_ne e]; exact this
    · have w := T.2.2.2.1.2 q q0 q1
      rw [r11, rf 112 (by decide) (by decide), rf 113 (by decide) (by decide), m94]
      by_cases e : q = 20 * s + J 108 s
      · rw [e, up1_eq]
        exact ⟨by omega, fun k k0 k1 => by omega⟩
      · rw [up1_ne e]; exact w
    · rw [r11, up1_eq] at jm; omega
    · rw [r11, up1_eq] at k1; omega
  have EN : EnN (pkM J s) (enm J) := by
    have := enm_s V
    unfold EnN at this ⊢
    rw [m94, rf 98 (by decide) (by decide)]
    exact this
  have Ee := eKO_s (iv_N V) hT.1 hP
  have c0 := cN_b (P := P) (J 94 0).toNat
  have key := PA_g (M := pkM J s) (en_ := enm J) (win := win) (deep := deep) (t := t) (TO_KO (iv_N V) hP) Ee (by rw [m94]; exact hP) (by rw [m94]; exact hT) EN (p := 20 * s + J 108 s) (by omega) G (by rw [rf 135 (by decide) (by decide)]; exact hd) (cN P (J 94 0).toNat).toNat (by omega)
  have eX : pkX J (enm J) (eKO J P) s win deep t = PA (pkM J s) (enm J) (20 * s + J 108 s) win deep t (eKO J P) (cN P (J 94 0).toNat).toNat := by
    unfold pkX
    rw [hcn]
  refine ⟨G, eX, ?_, by rw [eX]; exact key.2⟩
  rw [eX]
  exact ⟨key.1.1, key.1.2.1, fun k k0 k1 q => q⟩
theorem OPx_SU {s p u : Int} (hs : s = 0 ∨ s = 1) (hu : u = 0 ∨ u = 1) (hn : u ≠ s) (hp : 20 * s ≤ p ∧ p < 20 * s + 20) (f : ∀ a, 101 ≤ a → a ≤ 131 → (a < 111 ∨ 114 < a) → ∀ j, wd a * u ≤ j → j < wd a * u + wd a → K a j = J a j) (O : OPx J K p) : SU J K u := by
  intro a a0 a1 j j0 j1
  by_cases c : a = 111
  · subst c
    rw [show wd 111 = 20 from rfl] at j0 j1
    exact O.1 j (by omega)
  · by_cases d : a = 112 ∨ a = 113 ∨ a = 114
    · have w : wd a = 2400 := by obtain rfl | rfl | rfl := d <;> rfl
      rw [w] at j0 j1
      exact O.2 a d j (by omega)
    · exact f a a0 a1 (by omega) j j0 j1
theorem IVX_pk {s win deep t : Int} {P : Int → Prop} (V : INV n J) (hs : s = 0 ∨ s = 1) (hm : J 108 s < 20) (h6 : J 136 = ind P) (hP : ∀ j, P j → 0 ≤ j ∧ j < J 94 0) (hd : t ≠ 0 → ∀ z, J 135 z ≠ 0 → ¬P z) :
    IVX n (pkF J (enm J) (eKO J P) s win deep t) ∧ (∀ u, u = 0 ∨ u = 1 → u ≠ s → SU J (pkF J (enm J) (eKO J P) s win deep t) u) ∧ WT (pkX J (enm J) (eKO J P) s win deep t) ∧ OP J (pkX J (enm J) (eKO J P) s win deep t) (20 * s + J 108 s) ∧ pkX J (enm J) (eKO J P) s win deep t 108 = up1 (J 108) s (J 108 s + 1) := by
  have T := iv_T V
  have hT := iv_t V
  have hms := T.2.2.2.1.1 s hs
  obtain ⟨r8, r11, rf⟩ := pkM_r (J := J) (s := s)
  obtain ⟨G, eX, GX, OX⟩ := pk_G (win := win) (deep := deep) (t := t) V hs hm h6 hP hd
  rw [pkF_z]
  obtain ⟨X, hX⟩ : ∃ X, X = pkX J (enm J) (eKO J P) s win deep t := ⟨_, rfl⟩
  have xf : ∀ a, (a < 108 ∨ (108 < a ∧ a < 111) ∨ 114 < a) ∧ a ≠ 136 → X a = J a := fun a ha => by rw [hX]; exact pkX_f ha
  have TX : WT X := by rw [hX]; exact WT_pkX T GX.1
  rw [← hX] at GX OX ⊢
  have x8 : X 108 = up1 (J 108) s (J 108 s + 1) := by rw [hX, eX, PA_f (by decide), r8]
  have OJ : OPx J X (20 * s + J 108 s) := ⟨fun q hq => by rw [OX.1 q hq, r11, up1_ne hq], fun a ha j hj => by rw [OX.2 a ha j hj, rf a (by omega) (by omega)]⟩
  have VJ := IVX_of V
  have SX : ∀ u, u = 0 ∨ u = 1 → u ≠ s → SU J X u := fun u hu hn => OPx_SU hs hu hn (p := 20 * s + J 108 s) (by omega) (fun a a0 a1 ha j j0 j1 => by
    by_cases c : a = 108
    · subst c
      rw [show wd 108 = 1 from rfl] at j0 j1
      rw [x8, up1_ne (by omega)]
    · rw [xf a (by omega)]) OJ
  have VX : IVX n X := by
    refine IVX_mk (s := s) VJ hs (fun a ha => xf a (by omega)) SX TX (by rw [xf 110 (by decide)]; exact iv_110 V) (by rw [xf 116 (by decide)]; exact iv_116 V) (by rw [xf 117 (by decide)]; exact iv_117 V) (by rw [xf 127 (by decide)]; exact iv_127 V) (c_WE (fun a ha => xf a (by omega)) (iv_E2 V)) (c_WG (fun a ha => xf a (by omega)) (iv_G V)) ⟨?_, fun u k hu k0 k1 => ?_⟩ (c_WO (fun a ha => xf a (by omega)) (iv_O2 V)) (fun u p hu p0 p1 => ?_) (fun u p hu p0 p1 => ?_) (c_ZO (fun a ha => xf a (by omega)) (iv_Z V)) (c_Z7 (fun a ha => xf a (by omega)) (iv_Z7 V)) (by rw [xf 126 (by decide)]; exact iv_126 V) (NSs_f (fun a ha => xf a (by omega)) (by omega) (ix_N VJ hs)) ?_ (Int.le_refl _)
    · have q := iv_Q V
      unfold WQc at q ⊢
      rw [xf 104 (by decide), xf 105 (by decide), xf 106 (by decide)]
      exact q
    · rw [xf 104 (by decide)] at k1
      rw [xf 105 (by decide), xf 106 (by decide), xf 94 (by decide), x8]
      have q := (iv_Q2 V).2 u k hu k0 k1
      refine ⟨q.1, fun r => ?_⟩
      have := q.2 r
      by_cases c : u = s
      · subst c; rw [up1_eq]; omega
      · rw [up1_ne c]; exact this
    · rw [x8] at p0
      rw [xf 109 (by decide), xf 110 (by decide)]
      refine iv_M V u p hu ?_ p1
      by_cases c : u = s
      · subst c; rw [up1_eq] at p0; omega
      · rw [up1_ne c] at p0; exact p0
    · rw [x8] at p1
      by_cases e : 20 * u + p = 20 * s + J 108 s
      · rw [e]; exact GX.2.1
      · have hmu := T.2.2.2.1.1 u hu
        have pm : p < J 108 u := by
          by_cases c : u = s
          · subst c; rw [up1_eq] at p1; omega
          · rw [up1_ne c] at p1; exact p1
        have w := T.2.2.2.1.2 (20 * u + p) (by omega) (by omega)
        have d := iv_P V u p hu p0 pm
        intro i j i0 ij jm
        rw [OJ.1 _ e] at jm
        rw [OJ.2 112 (Or.inl rfl) _ (by omega), OJ.2 112 (Or.inl rfl) _ (by omega)]
        exact d i j i0 ij jm
    · have e : eN X s = eN J s := by unfold eN; rw [xf 129 (by decide)]
      rw [xf 119 (by decide), e]
      exact iv_l V hs
  have xs : X 108 s = J 108 s + 1 := by rw [x8, up1_eq]
  have V2 := IVX_dO (a := 1) (o := 20 * s + J 108 s) VX hs (by decide) (fun q => by omega) (fun _ => by omega) (fun _ => by omega)
  have V3 := IVX_109 (p := J 108 s) (v := 1) V2 hs (by rw [dO_f (by decide), xs]; omega) (Or.inr rfl)
  refine ⟨V3, fun u hu hn => SU_t (SX u hu hn) (SU_t (SU_dO TX hu hs hn) (SU_z 20 rfl (s := s) (by omega) (fun j j0 j1 => by omega))), TX, fun q k q0 q1 qp => ⟨OJ.1 q qp, fun k0 k1 => ⟨OJ.2 112 (by decide) _ (by omega), OJ.2 113 (by decide) _ (by omega), OJ.2 114 (by decide) _ (by omega)⟩⟩, x8⟩
end PKR
