/-! ===== the calls (20): what is told after sending ===== -/
section OPS14
variable {n m : Int} {h h1 : HP} {I I1 J K M D : Nat → Int → Int}
/-- the notes apart -/
noncomputable def fkJ (J K : Nat → Int → Int) (c : Nat) (s : Int) : Nat → Int → Int :=
  rowU (rowU (rowU (rowU (rowU J 115 (fun j => K (c + 1) (j - 6 * s) + 1)) 119 (fun _ => K c 4)) 118 (fun j => K (c + 2) (j - 120 * s) + 1)) 116 (fun j => K (c + 3) (j - 120 * s))) 117 (fun j => K (c + 4) (j - 120 * s))
theorem fkJ_f {c : Nat} {s : Int} {a : Nat} (ha : a < 115 ∨ 119 < a) : fkJ J K c s a = J a := by
  unfold fkJ
  rw [rowU_ne (by omega), rowU_ne (by omega), rowU_ne (by omega), rowU_ne (by omega), rowU_ne (by omega)]
theorem k37f {d : Nat} {s o : Int} (L : LX 3 h d) (D : DN h I J d s) (M : PM J) (K : WK J) (W : WL J) (T : WT J) (hs : s = 0 ∨ s = 1) (ho : 0 ≤ o ∧ o < 100) : Go 37 0 [.inr (.inl (some d)), .inl o] [] (mI h I) = some (mI h I, .inl (some (.inl (b01 (Th J s o))))) := by
  obtain ⟨F, hF⟩ : ∃ F, F = fkJ J I (d + 6) s := ⟨_, rfl⟩
  have f : ∀ a, a < 115 ∨ 119 < a → F a = J a := fun a ha => by rw [hF]; exact fkJ_f ha
  have DF : DN h I F d s := by
    have q : DNk h I F d s (J 104 s) := DNk_S (n := J 104 s) T hs (T.2.2.2.2.2.1 s hs).1 (fun a ha => f a (by omega)) (fun t _ _ => ⟨fun k _ _ => by rw [f 120 (by decide)], by rw [f 122 (by decide)], fun o _ _ => by rw [f 121 (by decide)]⟩) D
    have e : F 104 s = J 104 s := by rw [f 104 (by decide)]
    rw [← e] at q
    exact q
  have NF : NC I F (d + 6) s := by
    rw [hF]
    unfold fkJ
    refine ⟨fun k k0 k1 => ?_, ?_, fun o o0 o1 => ⟨?_, ?_, ?_⟩⟩
    · dsimp only
      rw [rowU_ne (by decide), rowU_ne (by decide), rowU_ne (by decide), rowU_ne (by decide), rowU_eq, show 6 * s + k - 6 * s = k by omega]
      omega
    · rw [rowU_ne (by decide), rowU_ne (by decide), rowU_ne (by decide), rowU_eq]
    · dsimp only
      rw [rowU_ne (by decide), rowU_ne (by decide), rowU_eq, show 120 * s + o - 120 * s = o by omega]
      omega
    · dsimp only
      rw [rowU_ne (by decide), rowU_eq, show 120 * s + o - 120 * s = o by omega]
    · dsimp only
      rw [rowU_eq, show 120 * s + o - 120 * s = o by omega]
  have e := k37 L (DC_n.mpr ⟨DF, NF⟩) (c_PM (fun a ha => f a (by omega)) M) (c_WK (fun a ha => f a (by omega)) K) (c_WL (fun a ha => f a (by omega)) W) hs ho
  have eT : Th F s o ↔ Th J s o := by
    unfold Th
    rw [HE_cc (J := J) (fun a ha => f a (by omega)), f 101 (by decide)]
  rw [e, b01_c eT]
/-- memories of a send -/
def SB (B J : Nat → Int → Int) : Prop := ∀ a, a ≤ 100 ∨ (110 < a ∧ a < 120) ∨ 122 < a → B a = J a
theorem En_W {B : Nat → Int → Int} {W H : Int → Prop} (f : ∀ a, 94 ≤ a ∧ a ≤ 98 → B a = K a) (h4 : B 134 = ind W) (h5 : B 135 = ind H) {o : Int} : En B o ↔ EnW K W H o := by
  unfold En EnW
  rw [c_Sb f, f 96 (by decide), h4, h5]
  constructor
  · rintro ⟨b, s, x, y⟩
    rw [ind_at] at x y
    exact ⟨b, s, x, y⟩
  · rintro ⟨b, s, x, y⟩
    exact ⟨b, s, by rw [ind_at]; exact x, by rw [ind_at]; exact y⟩
theorem n6_W {B : Nat → Int → Int} {W H : Int → Prop} {t T o : Int} {g : Int → Int} (f : ∀ a, 94 ≤ a ∧ a ≤ 98 → B a = K a) (h4 : B 134 = ind W) (h5 : B 135 = ind H) (hg : g o = B 116 (120 * t + o)) (o0 : 0 ≤ o) : tSh K W H t T g o = n6 B t T (120 * t + o) := by
  unfold tSh n6
  by_cases c : o < T
  · rw [fillR_in (by omega)]
    unfold g6
    rw [show 120 * t + o - 120 * t = o by omega]
    by_cases d : W o ∧ K 95 o = 2
    · rw [if_pos ⟨⟨o0, c⟩, d⟩, if_pos ⟨by rw [h4, ne_eq, ind_at, Classical.not_not]; exact d.1, by rw [f 95 (by decide)]; exact d.2⟩, b01_c (En_W f h4 h5)]
    · rw [if_neg (fun q => d q.2), if_neg (fun q => d ⟨by have := q.1; rw [h4, ne_eq, ind_at, Classical.not_not] at this; exact this, by have := q.2; rw [f 95 (by decide)] at this; exact this⟩), hg]
  · rw [fillR_out (by omega), if_neg (fun q => c q.1.2), hg]
theorem nT_W {B : Nat → Int → Int} {W H : Int → Prop} {t T : Int} (f : ∀ a, (94 ≤ a ∧ a ≤ 98) ∨ a = 116 → B a = K a) (h4 : B 134 = ind W) (h5 : B 135 = ind H) : tOt K W H t T ↔ nT B t T := by
  unfold tOt nT
  constructor
  · rintro ⟨k, hk, w, k2, ne⟩
    refine ⟨k, hk, by rw [h4, ne_eq, ind_at, Classical.not_not]; exact w, by rw [f 95 (by decide)]; exact k2, ?_⟩
    rw [f 116 (by decide), b01_c (En_W (fun a ha => f a (Or.inl ha)) h4 h5)]
    exact ne
  · rintro ⟨k, hk, w, k2, ne⟩
    rw [h4, ne_eq, ind_at, Classical.not_not] at w
    rw [f 95 (by decide)] at k2
    rw [f 116 (by decide), b01_c (En_W (fun a ha => f a (Or.inl ha)) h4 h5)] at ne
    exact ⟨k, hk, w, k2, ne⟩
theorem n7_W {B : Nat → Int → Int} {W S : Int → Prop} {t T o : Int} {g : Int → Int} (f5 : B 95 = J 95) (h4 : B 134 = ind W) (h7 : B 137 = ind S) (hT : ∀ o, 0 ≤ o → o < T → (Th B t o ↔ Th J t o)) (hg : g o = B 117 (120 * t + o)) (b7 : B 117 (120 * t + o) = 0 ∨ B 117 (120 * t + o) = 1) (o0 : 0 ≤ o) : tPr J W S t T g o = n7 B t T (120 * t + o) := by
  unfold tPr n7
  by_cases c : o < T
  · rw [fillR_in (by omega), show 120 * t + o - 120 * t = o by omega]
    unfold P7
    rw [h4, h7, f5, hg]
    by_cases d : W o ∧ J 95 o = 0 ∧ ¬S o ∧ ¬Th J t o
    · rw [if_pos ⟨⟨o0, c⟩, d⟩, b01_t]
      exact Or.inr ⟨by rw [ne_eq, ind_at, Classical.not_not]; exact d.1, d.2.1, by rw [ind_at]; exact d.2.2.1, fun q => d.2.2.2 ((hT o o0 c).mp q)⟩
    · rw [if_neg (fun q => d q.2)]
      obtain z | z := b7
      · rw [z, b01_f]
        rintro (q | q)
        · exact q rfl
        · obtain ⟨q1, q2, q3, q4⟩ := q
          rw [ne_eq, ind_at, Classical.not_not] at q1
          rw [ind_at] at q3
          exact d ⟨q1, q2, q3, fun r => q4 ((hT o o0 c).mpr r)⟩
      · rw [z, b01_t]
        exact Or.inl (by decide)
  · rw [fillR_out (by omega), if_neg (fun q => c q.1.2), hg]
/-- the notes after sending -/
noncomputable def nM (B : Nat → Int → Int) (t : Int) : Nat → Int → Int := rowU (rowU B 116 (n6 B t (B 94 0))) 117 (n7 B t (B 94 0))
theorem nK_M {B : Nat → Int → Int} {t : Int} : nK B t = kN (nM B t) t (nM B t 104 t) := rfl
theorem nM_f {B : Nat → Int → Int} {t : Int} {a : Nat} (h1 : a ≠ 116) (h2 : a ≠ 117) : nM B t a = B a := by
  unfold nM
  rw [rowU_ne h2, rowU_ne h1]
theorem nM_6 {B : Nat → Int → Int} {t : Int} : nM B t 116 = n6 B t (B 94 0) ∧ nM B t 117 = n7 B t (B 94 0) := by
  unfold nM
  exact ⟨by rw [rowU_ne (by decide), rowU_eq], rowU_eq⟩
theorem IVX_nM {t r x o : Int} (V : INV n J) (hn : n < 590) (ht : t = 0 ∨ t = 1) (hr : 0 ≤ r ∧ r < 6) (hx : 0 ≤ x ∧ x ≤ J 94 0) (hk : x ≠ 0 → 2 ≤ J 95 (x - 1)) {W : Int → Prop} (h4 : J 134 = ind W) (hW : ∀ j, W j → 0 ≤ j ∧ j < J 94 0) :
    IVX (n + 1) (nK (bE (dO J t 4 o) (6 * t + r) x) t) ∧ (∀ u, u = 0 ∨ u = 1 → u ≠ t → SU J (nK (bE (dO J t 4 o) (6 * t + r) x) t) u) ∧ B2 (n6 (bE (dO J t 4 o) (6 * t + r) x) t (J 94 0)) ∧ B2 (n7 (bE (dO J t 4 o) (6 * t + r) x) t (J 94 0)) := by
  have T := iv_T V
  have hT := iv_t V
  obtain ⟨D, hD⟩ : ∃ D, D = dO J t 4 o := ⟨_, rfl⟩
  obtain ⟨B, hB⟩ : ∃ B, B = bE D (6 * t + r) x := ⟨_, rfl⟩
  rw [← hD, ← hB]
  have fD : ∀ a, a < 101 ∨ (107 < a ∧ a < 110) ∨ (110 < a ∧ a < 120) ∨ 122 < a → D a = J a := fun a ha => by rw [hD]; exact dO_f ha
  have l0 := (iv_G V).2.2.2.2 t ht
  have ln := iv_l V ht
  have en := iv_eN (J := J) (s := t)
  have P0 : BP D t D := ⟨fun _ _ _ _ _ _ => rfl, fun _ _ _ => SU_rf, NtOK_c (J := J) (fun a ha => fD a (by omega)) (by omega) (fun k _ _ => by rw [fD 115 (by decide)]) (fun o _ _ => by rw [fD 118 (by decide)]) (fun o _ _ q => by rw [fD 116 (by decide)] at q; exact q) (iv_nt V ht), c_WG (fun a ha => fD a (by omega)) (iv_G V)⟩
  obtain ⟨q1, q2, q3, q4⟩ := BP_bE (r := r) (x := x) ht hr (by rw [fD 94 (by decide)]; exact hx) (by rw [fD 95 (by decide)]; exact hk) (by rw [fD 94 (by decide)]; omega) (by rw [fD 119 (by decide)]; omega) P0
  rw [← hB] at q1 q2 q3 q4
  have b119 := bE_119b (I := D) (s := t) (r := r) (x := x) hr
  rw [← hB, fD 119 (by decide)] at b119
  have fB : ∀ a, a < 101 ∨ (107 < a ∧ a < 110) ∨ (110 < a ∧ a < 115) ∨ (115 < a ∧ a < 119) ∨ a = 122 + 4 ∨ 126 < a → B a = J a := fun a ha => by rw [q1 a (by omega) (by omega) (by omega) (by omega) (by omega), fD a (by omega)]
  have B94 : B 94 0 = J 94 0 := by rw [fB 94 (by decide)]
  have i6 : B2 (n6 B t (J 94 0)) := fun j => by
    unfold n6 fillR
    split
    · unfold g6
      split
      · exact b01_or _
      · rw [fB 116 (by decide)]; exact iv_116 V j
    · rw [fB 116 (by decide)]; exact iv_116 V j
  have i7 : B2 (n7 B t (J 94 0)) := fun j => by
    unfold n7 fillR
    split
    · exact b01_or _
    · rw [fB 117 (by decide)]; exact iv_117 V j
  obtain ⟨m6, m7⟩ := nM_6 (B := B) (t := t)
  rw [B94] at m6 m7
  have mf : ∀ a, a ≠ 116 → a ≠ 117 → nM B t a = B a := fun a => nM_f
  have sM : ∀ u, u = 0 ∨ u = 1 → u ≠ t → SU D (nM B t) u := fun u hu hn => SU_t (q2 u hu hn) (fun a a0 a1 j j0 j1 => by
    by_cases c6 : a = 116
    · subst c6
      rw [show wd 116 = 120 from rfl] at j0 j1
      rw [m6]
      unfold n6
      exact fillR_out (by omega)
    · by_cases c7 : a = 117
      · subst c7
        rw [show wd 117 = 120 from rfl] at j0 j1
        rw [m7]
        unfold n7
        exact fillR_out (by omega)
      · rw [mf a c6 c7])
  have nt : NtC (nM B t) t := by
    obtain ⟨n1, n2, n3, n4⟩ := q3
    have fc : ∀ a, 94 ≤ a ∧ a ≤ 98 → nM B t a = B a := fun a ha => mf a (by omega) (by omega)
    refine ⟨fun k k0 k1 => ?_, fun p p0 p1 => ?_, fun p p0 p1 q => ?_, ?_⟩
    · rw [mf 115 (by decide) (by decide), fc 94 (by decide), fc 95 (by decide)]
      exact n1 k k0 k1
    · rw [mf 118 (by decide) (by decide), c_Vs fc, fc 94 (by decide), fc 95 (by decide)]
      exact n2 p p0 p1
    · rw [c_Vs fc]
      rw [m6] at q
      dsimp only at q
      by_cases c : p < J 94 0
      · unfold n6 at q
        rw [fillR_in (by omega)] at q
        unfold g6 at q
        rw [show 120 * t + p - 120 * t = p by omega] at q
        by_cases d : B 134 p ≠ 0 ∧ B 95 p = 2
        · exact ⟨⟨p0, by rw [B94]; exact c⟩, d.2⟩
        · rw [if_neg d] at q
          exact n3 p p0 p1 q
      · unfold n6 at q
        rw [fillR_out (by omega)] at q
        exact n3 p p0 p1 q
    · obtain ⟨ρ, n4⟩ := n4
      refine ⟨ρ, fun a b va sb => ?_⟩
      rw [c_Vs fc] at va
      rw [mf 118 (by decide) (by decide), c_Sb fc, fc 96 (by decide)] at sb
      exact n4 a b va sb
  have IX := IVX_nt (m := n + 1) (o := o) (M := nM B t) (IVX_of V) ht (fun a h1 h2 => by rw [mf a (by omega) (by omega), q1 a (by omega) (by omega) (by omega) (by omega) (by omega), hD]) (fun u hu hn => by rw [← hD]; exact sM u hu hn) (by rw [m6]; exact i6) (by rw [m7]; exact i7) (by
    unfold WN
    rw [mf 118 (by decide) (by decide), fB 118 (by decide)]
    exact T.2.2.1) nt (c_WG (J := B) (fun a ha => mf a (by omega) (by omega)) q4) (by rw [mf 119 (by decide) (by decide)]; exact b119.1) (by rw [mf 119 (by decide) (by decide)]; omega) (by omega)
  have d30 : 0 ≤ nM B t 104 t ∧ nM B t 104 t ≤ 30 := by
    rw [mf 104 (by decide) (by decide), q1 104 (by decide) (by decide) (by decide) (by decide) (by decide), hD]
    exact dO_104 (T.2.2.2.2.2.1 t ht)
  refine ⟨IX, fun u hu hn => ?_, i6, i7⟩
  have s0 : SU J D u := by rw [hD]; exact SU_dO T hu ht hn
  rw [nK_M]
  exact SU_t s0 (SU_t (sM u hu hn) (SU_kN d30 hu ht hn))
end OPS14
