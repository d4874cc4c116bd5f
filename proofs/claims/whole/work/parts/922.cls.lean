/-! ===== what always holds (3): a sync, a deed ===== -/
section IVXD
variable {n m : Int} {J K : Nat → Int → Int}
theorem IVX_mk {s : Int} (V : IVX n J) (hs : s = 0 ∨ s = 1) (f : ∀ a, 94 ≤ a ∧ a ≤ 100 → K a = J a) (S : ∀ u, u = 0 ∨ u = 1 → u ≠ s → SU J K u) (hT : WT K) (b0 : B2 (K 110)) (b1 : B2 (K 116)) (b2 : B2 (K 117)) (b3 : B2 (K 127)) (e : WE2 K) (g : WG K) (q : WQ2 K) (o : WO2 K) (p : PM K) (d : PDs K) (z : ZO K) (z7 : ZP7 K)
    (w : ∀ k, K 126 k = -1000 ∨ 0 ≤ K 126 k) (ns : NSs K s) (hl : K 119 s + eN K s ≤ m) (hm : n ≤ m) : IVX m K := by
  have fB : ∀ a, 94 ≤ a ∧ a ≤ 98 → K a = J a := fun a ha => f a (by omega)
  have hT0 := ix_t V
  have N : ∀ u, u = 0 ∨ u = 1 → NSs K u := fun u hu => by
    by_cases c : u = s
    · rw [c]; exact ns
    · exact NSs_o fB (by omega) hu ((ix_T V).2.2.2.2.2.1 u hu) (S u hu c) (ix_N V hu)
  have L : ∀ u, u = 0 ∨ u = 1 → K 119 u + eN K u ≤ m := fun u hu => by
    by_cases c : u = s
    · rw [c]; exact hl
    · have := ix_l V hu
      rw [c_eN hu (S u hu c), SU_r (S u hu c) 119 1 rfl (by decide) u (by omega)]
      omega
  have v8 := ix_8 V
  refine ⟨⟨c_RB fB V.1.1, c_WU fB V.1.2.1, ?_⟩, hT, ⟨b0, b1, b2, b3⟩, ⟨e, g, q, o⟩, ⟨p, d, z, z7⟩, ⟨w, c_V1 fB (ix_V1 V)⟩, ⟨N 0 (Or.inl rfl), N 1 (Or.inr rfl)⟩, ?_, ?_, ?_, L⟩
  · unfold WD
    rw [f 94 (by decide), f 99 (by decide)]
    exact V.1.2.2
  · rw [f 94 (by decide)]; exact V.2.2.2.2.2.2.2.1
  · rw [f 94 (by decide)]; exact V.2.2.2.2.2.2.2.2.1
  · rw [f 94 (by decide)]; omega
theorem WT_sY {s : Int} (T : WT J) (hs : s = 0 ∨ s = 1) : WT (sY J s) := by
  have f : ∀ a, a < 101 ∨ (104 < a ∧ a < 110) ∨ (110 < a ∧ a < 120) ∨ 122 < a → sY J s a = J a := fun a ha => sY_f ha
  refine ⟨c_WB (fun a ha => f a (by omega)) T.1, WL_sY T.2.1, ?_, c_WK (fun a ha => f a (by omega)) T.2.2.2.1, ?_, fun u hu => ?_, ?_⟩
  · unfold WN; rw [f 118 (by decide)]; exact T.2.2.1
  · rw [f 109 (by decide)]; exact T.2.2.2.2.1
  · by_cases c : u = s
    · subst c; rw [sY_104]; decide
    · rw [sY_104n c]; exact T.2.2.2.2.2.1 u hu
  · rw [f 97 (by decide)]; exact T.2.2.2.2.2.2
theorem nC_b {M : Nat → Int → Int} (N : WN M) (j : Int) : 0 ≤ nC M j ∧ nC M j ≤ 403 := by
  have := N j
  unfold nC
  split <;> split <;> omega
theorem WO_kN {M : Nat → Int → Int} {s t : Int} (N : WN M) (O : WO M) : WO (kN M s t) := fun j => by
  unfold kN
  rw [rowU_ne (by decide), rowU_eq]
  by_cases c : 120 * (31 * s + t) ≤ j ∧ j < 120 * (31 * s + t) + 120
  · rw [fillR_in c]; exact nC_b N _
  · rw [fillR_out c]; exact O j
/-- the slot that is kept is as good as what is kept -/
theorem SlN_kN {M : Nat → Int → Int} {s t : Int} (hT : M 94 0 ≤ 120) (N : NtC M s) (b7 : B2 (M 117)) : SlN (kN M s t) s t := by
  refine NtOK_c (J := M) (fun a ha => kN_f (by omega) (by omega) (by omega)) hT (fun k k0 k1 => kN_120 ⟨k0, k1⟩) (fun o o0 o1 => ?_) (fun o o0 o1 q => ?_) N
  · rw [kN_121 ⟨o0, o1⟩]
    unfold nC
    have := b7 (120 * s + o)
    split <;> split <;> omega
  · rw [kN_121 ⟨o0, o1⟩] at q
    intro c
    unfold nC at q
    rw [if_pos c] at q
    split at q <;> omega
theorem IVX_sY {s : Int} (V : IVX n J) (hs : s = 0 ∨ s = 1) : IVX n (sY J s) := by
  have T := ix_T V
  have hT := ix_t V
  have f : ∀ a, a < 101 ∨ (104 < a ∧ a < 110) ∨ (110 < a ∧ a < 120) ∨ 122 < a → sY J s a = J a := fun a ha => sY_f ha
  have fs : ∀ a, a ≠ 101 → a ≠ 102 → a ≠ 103 → a ≠ 110 → sJ J s a = J a := fun a h1 h2 h3 h4 => by
    unfold sJ
    rw [rowU_ne h4, rowU_ne h1, rowU_ne h3, rowU_ne h2]
  have fk : ∀ a, a ≠ 104 → sY J s a = kN (sJ J s) s 0 a := fun a ha => by unfold sY; rw [rowU_ne ha]
  have s110 : sY J s 110 = fillR (J 110) (20 * s) (20 * s + 20) (J 109) := by
    rw [fk 110 (by decide), kN_f (by decide) (by decide) (by decide)]
    unfold sJ
    rw [rowU_eq]
  have s101 : sY J s 101 = s1 J s := by
    rw [fk 101 (by decide), kN_f (by decide) (by decide) (by decide)]
    unfold sJ
    rw [rowU_ne (by decide), rowU_eq]
  have s102 : sY J s 102 = s2 J s := by
    rw [fk 102 (by decide), kN_f (by decide) (by decide) (by decide)]
    unfold sJ
    rw [rowU_ne (by decide), rowU_ne (by decide), rowU_ne (by decide), rowU_eq]
  have Q := ix_Q V
  have M := ix_M V
  have Z := ix_Z V
  have NJ := ix_N V hs
  have NsJ : NtC (sJ J s) s := by
    unfold NtC
    refine NtOK_c (J := J) (fun a ha => fs a (by omega) (by omega) (by omega) (by omega)) (by omega) (fun k _ _ => by rw [fs 115 (by decide) (by decide) (by decide) (by decide)]) (fun o _ _ => by rw [fs 118 (by decide) (by decide) (by decide) (by decide)]) (fun o _ _ q => by rw [fs 116 (by decide) (by decide) (by decide) (by decide)] at q; exact q) NJ.2.1
  refine IVX_mk (s := s) V hs (fun a ha => f a (by omega)) (fun u hu hn => SU_sY hT hu hs hn) (WT_sY T hs) ?_ (by rw [f 116 (by decide)]; exact ix_116 V) (by rw [f 117 (by decide)]; exact ix_117 V) (by rw [f 127 (by decide)]; exact ix_127 V) (c_WE (fun a ha => f a (by omega)) (ix_E V)) (c_WG (fun a ha => f a (by omega)) (ix_G V)) ?_ ?_ ?_ (c_PD (fun a ha => f a (by omega)) (ix_P V)) ?_ (c_Z7 (fun a ha => f a (by omega)) (ix_Z7 V)) (by rw [f 126 (by decide)]; exact ix_126 V) ⟨⟨?_, fun k k0 k1 => ?_⟩, ?_, fun t ht => ?_⟩ ?_ (Int.le_refl _)
  · intro j
    rw [s110]
    by_cases c : 20 * s ≤ j ∧ j < 20 * s + 20
    · rw [fillR_in c]; exact T.2.2.2.2.1 j
    · rw [fillR_out c]; exact ix_110 V j
  · refine ⟨fun u k hu k0 k1 => ?_, fun u k hu k0 k1 => ?_⟩
    · by_cases c : u = s
      · subst c; rw [sY_104] at k1; omega
      · rw [sY_104n c] at k1
        rw [f 105 (by decide), f 106 (by decide)]
        exact Q.1 u k hu k0 k1
    · by_cases c : u = s
      · subst c; rw [sY_104] at k1; omega
      · rw [sY_104n c] at k1
        rw [f 105 (by decide), f 106 (by decide), f 94 (by decide), f 108 (by decide)]
        exact Q.2 u k hu k0 k1
  · have : WO (kN (sJ J s) s 0) := WO_kN (by unfold WN; rw [fs 118 (by decide) (by decide) (by decide) (by decide)]; exact T.2.2.1) (by unfold WO; rw [fs 121 (by decide) (by decide) (by decide) (by decide)]; exact (ix_O V).1)
    refine ⟨?_, fun j => ?_⟩
    · unfold WO
      rw [fk 121 (by decide)]
      exact this
    · rw [fk 122 (by decide)]
      unfold kN
      rw [rowU_eq, fs 119 (by decide) (by decide) (by decide) (by decide), fs 122 (by decide) (by decide) (by decide) (by decide)]
      by_cases c : j = 31 * s + 0
      · rw [c, up1_eq]; exact ((ix_G V).2.2.2.2 s hs).1
      · rw [up1_ne c]; exact (ix_O V).2 j
  · intro u p hu p0 p1
    rw [f 108 (by decide)] at p0
    rw [f 109 (by decide), s110]
    have := M u p hu p0 p1
    refine ⟨this.1, ?_⟩
    by_cases c : 20 * s ≤ 20 * u + p ∧ 20 * u + p < 20 * s + 20
    · rw [fillR_in c]; exact this.1
    · rw [fillR_out c]; exact this.2
  · intro u o hu o0 o1
    rw [f 94 (by decide)] at o0
    have z := Z u o hu o0 o1
    have e2 : s2 J s (120 * u + o) = 0 := by
      unfold s2
      by_cases c : 120 * s ≤ 120 * u + o ∧ 120 * u + o < 120 * s + J 94 0
      · rw [fillR_in c, b01_f (by omega)]
      · rw [fillR_out c]; exact z.2
    rw [s101, s102]
    refine ⟨?_, e2⟩
    unfold s1
    by_cases c : 120 * s ≤ 120 * u + o ∧ 120 * u + o < 120 * s + 120
    · rw [fillR_in c, if_pos e2]
    · rw [fillR_out c]; exact z.1
  · rw [fk 122 (by decide), show (31 * s : Int) = 31 * s + 0 by omega, kN_122, fs 119 (by decide) (by decide) (by decide) (by decide), f 119 (by decide)]
    exact Int.le_refl _
  · rw [sY_104] at k1; omega
  · unfold NtC
    exact NtOK_c (J := J) (fun a ha => f a (by omega)) (by omega) (fun k _ _ => by rw [f 115 (by decide)]) (fun o _ _ => by rw [f 118 (by decide)]) (fun o _ _ q => by rw [f 116 (by decide)] at q; exact q) NJ.2.1
  · have t0 : t = 0 := by
      obtain q | ⟨k, hk, _⟩ := ht
      · exact q
      · rw [sY_104] at hk; omega
    subst t0
    have sl := SlN_kN (M := sJ J s) (s := s) (t := 0) (by rw [fs 94 (by decide) (by decide) (by decide) (by decide)]; omega) NsJ (by rw [fs 117 (by decide) (by decide) (by decide) (by decide)]; exact ix_117 V)
    unfold SlN at sl ⊢
    rw [fk 120 (by decide), fk 121 (by decide)]
    exact NtOK_c (J := kN (sJ J s) s 0) (fun a ha => by rw [fk a (by omega)]) (by rw [kN_f (by decide) (by decide) (by decide), fs 94 (by decide) (by decide) (by decide) (by decide)]; omega) (fun _ _ _ => rfl) (fun _ _ _ => rfl) (fun _ _ _ q => q) sl
  · have e : eN (sY J s) s = eN J s := by unfold eN; rw [f 129 (by decide)]
    rw [f 119 (by decide), e]
    exact ix_l V hs
/-- a deed that is no NOTE -/
theorem WT_dA {s a o : Int} (T : WT J) (hs : s = 0 ∨ s = 1) (hd : J 104 s < 30) : WT (dA J s a o) := by
  have h30 := T.2.2.2.2.2.1 s hs
  have e : dA J s a o = dO J s a o := by
    unfold dO dJ
    rw [if_neg (by omega)]
  rw [e]
  exact WT_dO T hs
theorem dA_rr {s a o : Int} : dA J s a o 104 = up1 (J 104) s (J 104 s + 1) ∧ dA J s a o 105 = up1 (J 105) (30 * s + J 104 s) a ∧ dA J s a o 106 = up1 (J 106) (30 * s + J 104 s) o ∧ dA J s a o 107 = up1 (J 107) (30 * s + J 104 s) 0 := by
  unfold dA
  refine ⟨by rw [rowU_eq], by rw [rowU_ne (by decide), rowU_ne (by decide), rowU_ne (by decide), rowU_eq], by rw [rowU_ne (by decide), rowU_ne (by decide), rowU_eq], by rw [rowU_ne (by decide), rowU_eq]⟩
theorem WQ_dA {s a o : Int} (Q : WQc J) (hd : 0 ≤ J 104 s ∧ J 104 s < 30) (h30 : ∀ u, u = 0 ∨ u = 1 → 0 ≤ J 104 u ∧ J 104 u ≤ 30) (hs : s = 0 ∨ s = 1) (ha : 0 ≤ a ∧ a ≤ 4) (h02 : a = 0 ∨ a = 2 → 0 ≤ o ∧ o < 100) (h13 : a = 1 ∨ a = 3 → 20 * s ≤ o ∧ o < 20 * s + 20) : WQc (dA J s a o) := by
  obtain ⟨r4, r5, r6, r7⟩ := dA_rr (J := J) (s := s) (a := a) (o := o)
  intro u k hu k0 k1
  rw [r4] at k1
  rw [r5, r6]
  have hu30 := h30 u hu
  by_cases c : u = s ∧ k = J 104 s
  · rw [c.1, c.2, up1_eq, up1_eq]
    exact ⟨ha, h02, h13⟩
  · have hk : k < J 104 u := by
      by_cases q : u = s
      · subst q
        rw [up1_eq] at k1
        by_cases r : k = J 104 u
        · exact absurd ⟨rfl, r⟩ c
        · omega
      · rw [up1_ne q] at k1
        exact k1
    have ne : 30 * u + k ≠ 30 * s + J 104 s := by
      intro q
      obtain rfl | rfl := hu <;> obtain rfl | rfl := hs <;> omega
    rw [up1_ne ne, up1_ne ne]
    exact Q u k hu k0 hk
theorem IVX_dA {s a o : Int} (V : IVX n J) (hs : s = 0 ∨ s = 1) (hd : J 104 s < 30) (ha : 0 ≤ a ∧ a ≤ 3) (h02 : a = 0 ∨ a = 2 → 0 ≤ o ∧ o < J 94 0) (h13 : a = 1 ∨ a = 3 → 20 * s ≤ o ∧ o < 20 * s + 20) (h1 : a = 1 → o < 20 * s + J 108 s) : IVX n (dA J s a o) := by
  have T := ix_T V
  have hT := ix_t V
  have h30 := T.2.2.2.2.2.1
  have h30s := h30 s hs
  have f : ∀ c, c < 104 ∨ 107 < c → dA J s a o c = J c := fun c hc => dA_f hc
  obtain ⟨r4, r5, r6, r7⟩ := dA_rr (J := J) (s := s) (a := a) (o := o)
  have NJ := ix_N V hs
  have old : ∀ k, 0 ≤ k → k < dA J s a o 104 s → dA J s a o 105 (30 * s + k) = 4 → k < J 104 s ∧ J 105 (30 * s + k) = 4 := fun k k0 k1 q => by
    rw [r4, up1_eq] at k1
    rw [r5] at q
    by_cases c : k = J 104 s
    · subst c
      rw [up1_eq] at q
      omega
    · rw [up1_ne (by omega)] at q
      exact ⟨by omega, q⟩
  refine IVX_mk (s := s) V hs (fun c hc => f c (by omega)) (fun u hu hn => SU_dA ⟨h30s.1, hd⟩ hu hs hn) (WT_dA T hs hd) (by rw [f 110 (by decide)]; exact ix_110 V) (by rw [f 116 (by decide)]; exact ix_116 V) (by rw [f 117 (by decide)]; exact ix_117 V) (by rw [f 127 (by decide)]; exact ix_127 V) (c_WE (fun c hc => f c (by omega)) (ix_E V)) (c_WG (fun c hc => f c (by omega)) (ix_G V)) ?_ (c_WO (fun c hc => f c (by omega)) (ix_O V)) (c_PM (fun c hc => f c (by omega)) (ix_M V)) (c_PD (fun c hc => f c (by omega)) (ix_P V)) (c_ZO (fun c hc => f c (by omega)) (ix_Z V)) (c_Z7 (fun c hc => f c (by omega)) (ix_Z7 V)) (by rw [f 126 (by decide)]; exact ix_126 V) ⟨⟨?_, fun k k0 k1 q => ?_⟩, ?_, fun t ht => ?_⟩ ?_ (Int.le_refl _)
  · refine ⟨WQ_dA (ix_Q V).1 ⟨h30s.1, hd⟩ h30 hs (by omega) (fun q => by have := h02 q; omega) h13, fun u k hu k0 k1 => ?_⟩
    rw [r4] at k1
    rw [r5, r6, f 94 (by decide), f 108 (by decide)]
    have hu30 := h30 u hu
    by_cases c : u = s ∧ k = J 104 s
    · rw [c.1, c.2, up1_eq, up1_eq]
      exact ⟨fun q => (h02 (Or.inl q)).2, h1⟩
    · have hk : k < J 104 u := by
        by_cases z : u = s
        · subst z
          rw [up1_eq] at k1
          by_cases r : k = J 104 u
          · exact absurd ⟨rfl, r⟩ c
          · omega
        · rw [up1_ne z] at k1
          exact k1
      have ne : 30 * u + k ≠ 30 * s + J 104 s := by
        intro z
        obtain rfl | rfl := hu <;> obtain rfl | rfl := hs <;> omega
      rw [up1_ne ne, up1_ne ne]
      exact (ix_Q V).2 u k hu k0 hk
  · rw [f 122 (by decide), f 119 (by decide)]; exact NJ.1.1
  · obtain ⟨k2, q2⟩ := old k k0 k1 q
    rw [f 122 (by decide), f 119 (by decide)]
    exact NJ.1.2 k k0 k2 q2
  · unfold NtC
    rw [f 115 (by decide), f 116 (by decide), f 118 (by decide)]
    exact NtOK_c (J := J) (fun c hc => f c (by omega)) (by omega) (fun _ _ _ => rfl) (fun _ _ _ => rfl) (fun _ _ _ q => q) NJ.2.1
  · have ht2 : SlU J s t := by
      obtain q | ⟨k, hk, q, e⟩ := ht
      · exact Or.inl q
      · obtain ⟨k2, q2⟩ := old k hk.1 hk.2 q
        exact Or.inr ⟨k, ⟨hk.1, k2⟩, q2, e⟩
    unfold SlN
    rw [f 120 (by decide), f 121 (by decide)]
    exact NtOK_c (J := J) (fun c hc => f c (by omega)) (by omega) (fun _ _ _ => rfl) (fun _ _ _ => rfl) (fun _ _ _ q => q) (NJ.2.2 t ht2)
  · have e : eN (dA J s a o) s = eN J s := by unfold eN; rw [f 129 (by decide)]
    rw [f 119 (by decide), e]
    exact ix_l V hs
theorem IVX_dJ {s : Int} (V : IVX n J) (hs : s = 0 ∨ s = 1) : IVX n (dJ J s) := by
  unfold dJ
  split
  · exact IVX_sY V hs
  · exact V
theorem IVX_dO {s a o : Int} (V : IVX n J) (hs : s = 0 ∨ s = 1) (ha : 0 ≤ a ∧ a ≤ 3) (h02 : a = 0 ∨ a = 2 → 0 ≤ o ∧ o < J 94 0) (h13 : a = 1 ∨ a = 3 → 20 * s ≤ o ∧ o < 20 * s + 20) (h1 : a = 1 → o < 20 * s + J 108 s) : IVX n (dO J s a o) :=
  IVX_dA (IVX_dJ V hs) hs (dJ_104 ((ix_T V).2.2.2.2.2.1 s hs)).2 ha (fun q => by rw [dJ_f (by decide)]; exact h02 q) h13 (fun q => by rw [dJ_f (by decide)]; exact h1 q)
/-- a cell of a row that has no part in the notes -/
theorem NSs_k {a : Nat} {g : Int → Int} {s : Int} (ha : (98 < a ∧ a < 104) ∨ (105 < a ∧ a < 115) ∨ 122 < a) (hT : J 94 0 ≤ 120) (N : NSs J s) : NSs (rowU J a g) s := by
  have f : ∀ c, c ≠ a → rowU J a g c = J c := fun c hc => rowU_ne hc
  obtain ⟨n1, n2, n3⟩ := N
  refine ⟨?_, ?_, fun t ht => ?_⟩
  · unfold NL
    rw [f 104 (by omega), f 105 (by omega), f 119 (by omega), f 122 (by omega)]
    exact n1
  · unfold NtC
    rw [f 115 (by omega), f 116 (by omega), f 118 (by omega)]
    exact NtOK_c (J := J) (fun c hc => f c (by omega)) hT (fun _ _ _ => rfl) (fun _ _ _ => rfl) (fun _ _ _ q => q) n2
  · unfold SlU at ht
    rw [f 104 (by omega), f 105 (by omega)] at ht
    unfold SlN
    rw [f 120 (by omega), f 121 (by omega)]
    exact NtOK_c (J := J) (fun c hc => f c (by omega)) hT (fun _ _ _ => rfl) (fun _ _ _ => rfl) (fun _ _ _ q => q) (n3 t ht)
theorem IVX_101 {s o v : Int} (V : IVX n J) (hs : s = 0 ∨ s = 1) (ho : 0 ≤ o ∧ o < J 94 0) (hv : 0 ≤ v ∧ v ≤ 31) : IVX n (zu2 J 101 (120 * s + o) v) := by
  have T := ix_T V
  have hT := ix_t V
  rw [zu2_row]
  have f : ∀ c, c ≠ 101 → rowU J 101 (up1 (J 101) (120 * s + o) v) c = J c := fun c hc => rowU_ne hc
  refine IVX_mk (s := s) V hs (fun c hc => f c (by omega)) (fun u hu hn => ?_) (by rw [← zu2_row]; exact WT_101 T hv) (by rw [f 110 (by decide)]; exact ix_110 V) (by rw [f 116 (by decide)]; exact ix_116 V) (by rw [f 117 (by decide)]; exact ix_117 V) (by rw [f 127 (by decide)]; exact ix_127 V) (c_WE (fun c hc => f c (by omega)) (ix_E V)) (c_WG (fun c hc => f c (by omega)) (ix_G V)) (c_WQ (fun c hc => f c (by omega)) (ix_Q V)) (c_WO (fun c hc => f c (by omega)) (ix_O V)) (c_PM (fun c hc => f c (by omega)) (ix_M V)) (c_PD (fun c hc => f c (by omega)) (ix_P V)) ?_ (c_Z7 (fun c hc => f c (by omega)) (ix_Z7 V)) (by rw [f 126 (by decide)]; exact ix_126 V) (NSs_k (by decide) (by omega) (ix_N V hs)) ?_ (Int.le_refl _)
  · rw [← zu2_row]
    exact SU_z 120 rfl (s := s) (by omega) (fun j j0 j1 => by omega)
  · intro u i hu i0 i1
    rw [f 94 (by decide)] at i0
    have z := ix_Z V u i hu i0 i1
    rw [rowU_eq, f 102 (by decide), up1_ne (by omega)]
    exact z
  · have e : eN (rowU J 101 (up1 (J 101) (120 * s + o) v)) s = eN J s := by unfold eN; rw [f 129 (by decide)]
    rw [f 119 (by decide), e]
    exact ix_l V hs
theorem IVX_109 {s p v : Int} (V : IVX n J) (hs : s = 0 ∨ s = 1) (hp : 0 ≤ p ∧ p < J 108 s) (hv : v = 0 ∨ v = 1) : IVX n (zu2 J 109 (20 * s + p) v) := by
  have T := ix_T V
  have hT := ix_t V
  have hm := T.2.2.2.1.1
  have hms := hm s hs
  rw [zu2_row]
  have f : ∀ c, c ≠ 109 → rowU J 109 (up1 (J 109) (20 * s + p) v) c = J c := fun c hc => rowU_ne hc
  refine IVX_mk (s := s) V hs (fun c hc => f c (by omega)) (fun u hu hn => ?_) (by rw [← zu2_row]; exact WT_109 T hv) (by rw [f 110 (by decide)]; exact ix_110 V) (by rw [f 116 (by decide)]; exact ix_116 V) (by rw [f 117 (by decide)]; exact ix_117 V) (by rw [f 127 (by decide)]; exact ix_127 V) (c_WE (fun c hc => f c (by omega)) (ix_E V)) (c_WG (fun c hc => f c (by omega)) (ix_G V)) (c_WQ (fun c hc => f c (by omega)) (ix_Q V)) (c_WO (fun c hc => f c (by omega)) (ix_O V)) ?_ (c_PD (fun c hc => f c (by omega)) (ix_P V)) (c_ZO (fun c hc => f c (by omega)) (ix_Z V)) (c_Z7 (fun c hc => f c (by omega)) (ix_Z7 V)) (by rw [f 126 (by decide)]; exact ix_126 V) (NSs_k (by decide) (by omega) (ix_N V hs)) ?_ (Int.le_refl _)
  · rw [← zu2_row]
    exact SU_z 20 rfl (s := s) (by omega) (fun j j0 j1 => by omega)
  · intro u i hu i0 i1
    rw [f 108 (by decide)] at i0
    have z := ix_M V u i hu i0 i1
    have := hm u hu
    have ne : 20 * u + i ≠ 20 * s + p := by
      intro q
      obtain rfl | rfl := hu <;> obtain rfl | rfl := hs <;> omega
    rw [rowU_eq, f 110 (by decide), up1_ne ne]
    exact z
  · have e : eN (rowU J 109 (up1 (J 109) (20 * s + p) v)) s = eN J s := by unfold eN; rw [f 129 (by decide)]
    rw [f 119 (by decide), e]
    exact ix_l V hs
theorem IVX_126 {s o : Int} (V : IVX n J) (hs : s = 0 ∨ s = 1) (ho : 0 ≤ o ∧ o < 120) : IVX n (wR J s o) := by
  have T := ix_T V
  have hT := ix_t V
  have f : ∀ c, c ≠ 126 → wR J s o c = J c := fun c hc => rowU_ne hc
  have r : wR J s o 126 = up1 (J 126) (120 * s + o) (J 94 8) := rowU_eq
  have v8 := ix_8 V
  have G := ix_G V
  refine IVX_mk (s := s) V hs (fun c hc => f c (by omega)) (fun u hu hn => ?_) (WT_126 T) (by rw [f 110 (by decide)]; exact ix_110 V) (by rw [f 116 (by decide)]; exact ix_116 V) (by rw [f 117 (by decide)]; exact ix_117 V) (by rw [f 127 (by decide)]; exact ix_127 V) (c_WE (fun c hc => f c (by omega)) (ix_E V)) ?_ (c_WQ (fun c hc => f c (by omega)) (ix_Q V)) (c_WO (fun c hc => f c (by omega)) (ix_O V)) (c_PM (fun c hc => f c (by omega)) (ix_M V)) (c_PD (fun c hc => f c (by omega)) (ix_P V)) (c_ZO (fun c hc => f c (by omega)) (ix_Z V)) (c_Z7 (fun c hc => f c (by omega)) (ix_Z7 V)) ?_ (NSs_k (by decide) (by omega) (ix_N V hs)) ?_ (Int.le_refl _)
  · unfold wR
    rw [← zu2_row]
    exact SU_z 120 rfl (s := s) (by omega) (fun j j0 j1 => by omega)
  · unfold WG at G ⊢
    rw [f 94 (by decide), f 119 (by decide), f 123 (by decide), f 124 (by decide), f 125 (by decide), r]
    refine ⟨G.1, G.2.1, fun k => ?_, G.2.2.2⟩
    by_cases c : k = 120 * s + o
    · rw [c, up1_eq]
      have := G.2.2.2.1
      omega
    · rw [up1_ne c]
      exact G.2.2.1 k
  · intro k
    rw [r]
    by_cases c : k = 120 * s + o
    · rw [c, up1_eq]; exact Or.inr v8.1
    · rw [up1_ne c]; exact ix_126 V k
  · have e : eN (wR J s o) s = eN J s := by unfold eN; rw [f 129 (by decide)]
    rw [f 119 (by decide), e]
    exact ix_l V hs
theorem IVX_wW {s o : Int} (V : IVX n J) (hs : s = 0 ∨ s = 1) (ho : 0 ≤ o ∧ o < J 94 0) : IVX n (wW J s o) := by
  have hT := ix_t V
  have V1 := IVX_126 (o := o) V hs (by omega)
  unfold wW
  split
  · exact V1
  · have h30 := (ix_T V1).2.2.2.2.2.1 s hs
    have d := dJ_104 h30
    have V2 := IVX_dO (a := 0) (o := o) V1 hs (by decide) (fun _ => by
      have : wR J s o 94 = J 94 := rowU_ne (by decide)
      rw [this]
      exact ho) (fun q => by omega) (fun q => by omega)
    have V3 := IVX_101 (o := o) (v := 2 + dJ (wR J s o) s 104 s) V2 hs (by
      rw [dO_f (by decide)]
      have : wR J s o 94 = J 94 := rowU_ne (by decide)
      rw [this]
      exact ho) (by omega)
    rw [zu2_row] at V3
    exact V3
theorem SU_wW {s u o : Int} (V : IVX n J) (hs : s = 0 ∨ s = 1) (hu : u = 0 ∨ u = 1) (hn : u ≠ s) (ho : 0 ≤ o ∧ o < 120) : SU J (wW J s o) u := by
  have s1 : SU J (wR J s o) u := by
    unfold wR
    rw [← zu2_row]
    exact SU_z 120 rfl (s := s) (by omega) (fun j j0 j1 => by omega)
  unfold wW
  split
  · exact s1
  · refine SU_t s1 (SU_t (SU_dO (s := s) (a := 0) (o := o) (WT_126 (ix_T V)) hu hs hn) ?_)
    have := SU_z (J := dO (wR J s o) s 0 o) (a := 101) (k := 120 * s + o) (v := 2 + dJ (wR J s o) s 104 s) (u := u) 120 rfl (s := s) (by omega) (fun j j0 j1 => by omega)
    rw [zu2_row] at this
    exact this
end IVXD
