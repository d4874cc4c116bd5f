/-! ===== the calls (12): a NOTE; commit ===== -/
section OPS7
variable {n m : Int} {h h1 : HP} {I I1 J K M D : Nat → Int → Int}
theorem IVX_nt {s o : Int} (V : IVX n J) (hs : s = 0 ∨ s = 1) (f : ∀ a, (a < 115 ∨ 119 < a) → (a < 123 ∨ 125 < a) → M a = dO J s 4 o a) (S : ∀ u, u = 0 ∨ u = 1 → u ≠ s → SU (dO J s 4 o) M u) (b6 : B2 (M 116)) (b7 : B2 (M 117)) (wn : WN M) (nt : NtC M s) (wg : WG M) (l0 : J 119 s ≤ M 119 s) (l1 : M 119 s + eN J s ≤ m) (hm : n ≤ m) : IVX m (kN M s (M 104 s)) := by
  have T := ix_T V
  have hT := ix_t V
  have h30 := T.2.2.2.2.2.1 s hs
  obtain ⟨J1, hJ1⟩ : ∃ J1, J1 = dJ J s := ⟨_, rfl⟩
  have V1 : IVX n J1 := by rw [hJ1]; exact IVX_dJ V hs
  have d1 : 0 ≤ J1 104 s ∧ J1 104 s < 30 := by rw [hJ1]; exact dJ_104 h30
  have T1 := ix_T V1
  have g1 : ∀ a, a < 101 ∨ (104 < a ∧ a < 110) ∨ (110 < a ∧ a < 120) ∨ 122 < a → J1 a = J a := fun a ha => by rw [hJ1]; exact dJ_f ha
  have eD : dO J s 4 o = dA J1 s 4 o := by rw [hJ1]; rfl
  have hSJ : ∀ u, u = 0 ∨ u = 1 → u ≠ s → SU J M u := fun u hu hn => SU_t (SU_dO T hu hs hn) (S u hu hn)
  rw [eD] at f
  have gd : ∀ a, a < 104 ∨ 107 < a → dA J1 s 4 o a = J1 a := fun a ha => dA_f ha
  obtain ⟨r4, r5, r6, r7⟩ := dA_rr (J := J1) (s := s) (a := 4) (o := o)
  have M104 : M 104 = up1 (J1 104) s (J1 104 s + 1) := by rw [f 104 (by decide) (by decide), r4]
  have M105 : M 105 = up1 (J1 105) (30 * s + J1 104 s) 4 := by rw [f 105 (by decide) (by decide), r5]
  have M106 : M 106 = up1 (J1 106) (30 * s + J1 104 s) o := by rw [f 106 (by decide) (by decide), r6]
  have ms : M 104 s = J1 104 s + 1 := by rw [M104, up1_eq]
  have fJ1 : ∀ a, (a < 104 ∨ (107 < a ∧ a < 115) ∨ (119 < a ∧ a < 123) ∨ 125 < a) → M a = J1 a := fun a ha => by rw [f a (by omega) (by omega), gd a (by omega)]
  have fJ : ∀ a, (a < 101 ∨ (107 < a ∧ a < 110) ∨ (110 < a ∧ a < 115) ∨ 125 < a) → M a = J a := fun a ha => by rw [fJ1 a (by omega), g1 a (by omega)]
  have kf : ∀ a, a < 120 ∨ 122 < a → kN M s (M 104 s) a = M a := fun a ha => kN_f (by omega) (by omega) (by omega)
  have tT : WT (dA J1 s 4 o) := WT_dA T1 hs d1.2
  have N1 := ix_N V1 hs
  have h9 := (ix_G V).2.2.2.2 s hs
  refine IVX_mk (s := s) V hs (fun a ha => by rw [kf a (by omega), fJ a (by omega)]) (fun u hu hn => SU_t (hSJ u hu hn) (SU_kN (by omega) hu hs hn)) ⟨?_, ?_, ?_, ?_, ?_, fun u hu => ?_, ?_⟩ ?_ (by rw [kf 116 (by decide)]; exact b6) (by rw [kf 117 (by decide)]; exact b7) (by rw [kf 127 (by decide), fJ 127 (by decide)]; exact ix_127 V) (c_WE (fun a ha => by rw [kf a (by omega), fJ a (by omega)]) (ix_E V)) (c_WG (fun a ha => kf a (by omega)) wg) ⟨fun u k hu k0 k1 => ?_, fun u k hu k0 k1 => ?_⟩ ⟨?_, fun j => ?_⟩ ?_ (c_PD (fun a ha => by rw [kf a (by omega), fJ a (by omega)]) (ix_P V)) ?_ (c_Z7 (fun a ha => by rw [kf a (by omega), fJ a (by omega)]) (ix_Z7 V)) (by rw [kf 126 (by decide), fJ 126 (by decide)]; exact ix_126 V) ⟨⟨?_, fun k k0 k1 q => ?_⟩, ?_, fun t ht => ?_⟩ ?_ hm
  · exact c_WB (J := J) (fun a ha => by rw [kf a (by omega), fJ a (by omega)]) T.1
  · exact c_WL (J := dA J1 s 4 o) (fun a ha => by rw [kf a (by omega), f a (by omega) (by omega)]) tT.2.1
  · unfold WN; rw [kf 118 (by decide)]; exact wn
  · exact c_WK (J := J) (fun a ha => by rw [kf a (by omega), fJ a (by omega)]) T.2.2.2.1
  · rw [kf 109 (by decide), fJ 109 (by decide)]; exact T.2.2.2.2.1
  · rw [kf 104 (by decide), f 104 (by decide) (by decide)]; exact tT.2.2.2.2.2.1 u hu
  · rw [kf 97 (by decide), fJ 97 (by decide)]; exact T.2.2.2.2.2.2
  · rw [kf 110 (by decide), fJ1 110 (by decide)]; exact ix_110 V1
  · rw [kf 104 (by decide), f 104 (by decide) (by decide)] at k1
    rw [kf 105 (by decide), kf 106 (by decide), f 105 (by decide) (by decide), f 106 (by decide) (by decide)]
    exact WQ_dA (ix_Q V1).1 d1 T1.2.2.2.2.2.1 hs (by decide) (fun q => by omega) (fun q => by omega) u k hu k0 k1
  · rw [kf 104 (by decide), M104] at k1
    rw [kf 105 (by decide), kf 106 (by decide), kf 94 (by decide), kf 108 (by decide), M105, M106, fJ1 94 (by decide), fJ1 108 (by decide)]
    by_cases c : u = s ∧ k = J1 104 s
    · rw [c.1, c.2, up1_eq]
      exact ⟨fun q => absurd q (by decide), fun q => absurd q (by decide)⟩
    · have hu30 := T1.2.2.2.2.2.1 u hu
      have hk : k < J1 104 u := by
        by_cases z : u = s
        · subst z
          rw [up1_eq] at k1
          by_cases r : k = J1 104 u
          · exact absurd ⟨rfl, r⟩ c
          · omega
        · rw [up1_ne z] at k1
          exact k1
      have ne : 30 * u + k ≠ 30 * s + J1 104 s := by
        intro z
        obtain rfl | rfl := hu <;> obtain rfl | rfl := hs <;> omega
      rw [up1_ne ne, up1_ne ne]
      exact (ix_Q V1).2 u k hu k0 hk
  · exact WO_kN wn (by unfold WO; rw [fJ1 121 (by decide)]; exact (ix_O V1).1)
  · unfold kN
    rw [rowU_eq]
    by_cases c : j = 31 * s + M 104 s
    · rw [c, up1_eq]; omega
    · rw [up1_ne c, fJ1 122 (by decide)]; exact (ix_O V1).2 j
  · exact c_PM (J := J1) (fun a ha => by rw [kf a (by omega), fJ1 a (by omega)]) (ix_M V1)
  · exact c_ZO (J := J1) (fun a ha => by rw [kf a (by omega), fJ1 a (by omega)]) (ix_Z V1)
  · rw [kf 119 (by decide)]
    unfold kN
    rw [rowU_eq, up1_ne (by omega), fJ1 122 (by decide)]
    have := N1.1.1
    rw [g1 119 (by decide)] at this
    omega
  · rw [kf 104 (by decide), ms] at k1
    rw [kf 105 (by decide), M105] at q
    rw [kf 119 (by decide)]
    unfold kN
    rw [rowU_eq]
    by_cases c : k = J1 104 s
    · rw [c, ← ms, up1_eq]
      exact Int.le_refl _
    · rw [up1_ne (by omega)] at q
      rw [up1_ne (by omega), fJ1 122 (by decide)]
      have := N1.1.2 k k0 (by omega) q
      rw [g1 119 (by decide)] at this
      omega
  · unfold NtC
    exact NtOK_c (J := M) (fun a ha => kf a (by omega)) (by rw [fJ 94 (by decide)]; omega) (fun k _ _ => by rw [kf 115 (by decide)]) (fun o _ _ => by rw [kf 118 (by decide)]) (fun o _ _ q => by rw [kf 116 (by decide)] at q; exact q) nt
  · by_cases c : t = M 104 s
    · rw [c]
      exact SlN_kN (by rw [fJ 94 (by decide)]; omega) nt b7
    · have h1 : SlU J1 s t ∧ 0 ≤ t ∧ t ≤ 30 := by
        obtain q | ⟨k, hk, q, e⟩ := ht
        · exact ⟨Or.inl q, by omega, by omega⟩
        · rw [kf 104 (by decide), ms] at hk
          rw [kf 105 (by decide), M105] at q
          by_cases z : k = J1 104 s
          · exact absurd (by rw [e, z, ms]) c
          · rw [up1_ne (by omega)] at q
            exact ⟨Or.inr ⟨k, by omega, q, e⟩, by omega, by omega⟩
      refine NtOK_c (J := J1) (fun a ha => by rw [kf a (by omega), fJ1 a (by omega)]) (by rw [g1 94 (by decide)]; omega) (fun k k0 k1 => ?_) (fun o o0 o1 => ?_) (fun o o0 o1 q => ?_) (N1.2.2 t h1.1)
      · unfold kN
        rw [rowU_ne (by decide), rowU_ne (by decide), rowU_eq, fillR_out (by omega), fJ1 120 (by decide)]
      · unfold kN
        rw [rowU_ne (by decide), rowU_eq, fillR_out (by omega), fJ1 121 (by decide)]
      · unfold kN at q
        rw [rowU_ne (by decide), rowU_eq, fillR_out (by omega), fJ1 121 (by decide)] at q
        exact q
  · have e : eN (kN M s (M 104 s)) s = eN J s := by unfold eN; rw [kf 129 (by decide), fJ 129 (by decide)]
    rw [kf 119 (by decide), e]
    exact l1
/-- references have moved -/
def BP (D : Nat → Int → Int) (s : Int) (M : Nat → Int → Int) : Prop := (∀ a, a ≠ 115 → a ≠ 119 → a ≠ 123 → a ≠ 124 → a ≠ 125 → M a = D a) ∧ (∀ u, u = 0 ∨ u = 1 → u ≠ s → SU D M u) ∧ NtC M s ∧ WG M
theorem bC_r {s r x : Int} (hr : 0 ≤ r ∧ r < 6) : bC M (6 * s + r) x 115 = up1 (M 115) (6 * s + r) x ∧ bC M (6 * s + r) x 119 = up1 (M 119) s (M 119 s + 1) ∧ bC M (6 * s + r) x 123 = up1 (M 123) (600 * s + M 119 s) (M 115 (6 * s + r)) ∧ bC M (6 * s + r) x 124 = up1 (M 124) (600 * s + M 119 s) x ∧ bC M (6 * s + r) x 125 = up1 (M 125) (600 * s + M 119 s) (M 94 8) ∧ ∀ a, a ≠ 115 → a ≠ 119 → a ≠ 123 → a ≠ 124 → a ≠ 125 → bC M (6 * s + r) x a = M a := by
  have hq : (6 * s + r) / 6 = s := by omega
  unfold bC
  rw [hq]
  exact ⟨by rw [rowU_eq], by rw [rowU_ne (by decide), rowU_eq], by rw [rowU_ne (by decide), rowU_ne (by decide), rowU_ne (by decide), rowU_ne (by decide), rowU_eq], by rw [rowU_ne (by decide), rowU_ne (by decide), rowU_ne (by decide), rowU_eq], by rw [rowU_ne (by decide), rowU_ne (by decide), rowU_eq], fun a h1 h2 h3 h4 h5 => by rw [rowU_ne h1, rowU_ne h2, rowU_ne h5, rowU_ne h4, rowU_ne h3]⟩
theorem BP_bE {s r x : Int} (hs : s = 0 ∨ s = 1) (hr : 0 ≤ r ∧ r < 6) (hx : 0 ≤ x ∧ x ≤ D 94 0) (hk : x ≠ 0 → 2 ≤ D 95 (x - 1)) (hT : D 94 0 ≤ 120) (hl : M 119 s < 600) (P : BP D s M) : BP D s (bE M (6 * s + r) x) := by
  obtain ⟨p1, p2, p3, p4⟩ := P
  unfold bE
  by_cases c : M 115 (6 * s + r) = x
  · rw [if_pos c]; exact ⟨p1, p2, p3, p4⟩
  · rw [if_neg c]
    obtain ⟨c5, c9, c23, c24, c25, cf⟩ := bC_r (M := M) (s := s) (r := r) (x := x) hr
    have M94 : M 94 = D 94 := p1 94 (by decide) (by decide) (by decide) (by decide) (by decide)
    have M95 : M 95 = D 95 := p1 95 (by decide) (by decide) (by decide) (by decide) (by decide)
    have old := (p3.1 r hr.1 hr.2).1
    dsimp only at old
    have g9 := p4.2.2.2.2 s hs
    refine ⟨fun a h1 h2 h3 h4 h5 => by rw [cf a h1 h2 h3 h4 h5]; exact p1 a h1 h2 h3 h4 h5, fun u hu hn => SU_t (p2 u hu hn) (fun b b0 b1 j j0 j1 => ?_), ?_, ?_⟩
    · by_cases d1 : b = 115
      · subst d1
        rw [show wd 115 = 6 from rfl] at j0 j1
        rw [c5]; exact up1_ne (by omega)
      by_cases d2 : b = 119
      · subst d2
        rw [show wd 119 = 1 from rfl] at j0 j1
        rw [c9]; exact up1_ne (by omega)
      by_cases d3 : b = 123
      · subst d3
        rw [show wd 123 = 600 from rfl] at j0 j1
        rw [c23]; exact up1_ne (by omega)
      by_cases d4 : b = 124
      · subst d4
        rw [show wd 124 = 600 from rfl] at j0 j1
        rw [c24]; exact up1_ne (by omega)
      by_cases d5 : b = 125
      · subst d5
        rw [show wd 125 = 600 from rfl] at j0 j1
        rw [c25]; exact up1_ne (by omega)
      rw [cf b d1 d2 d3 d4 d5]
    · have cb : ∀ a, 94 ≤ a ∧ a ≤ 98 → bC M (6 * s + r) x a = M a := fun a ha => cf a (by omega) (by omega) (by omega) (by omega) (by omega)
      obtain ⟨n1, n2, n3, ρ, n4⟩ := p3
      refine ⟨fun k k0 k1 => ?_, fun o o0 o1 => ?_, fun o o0 o1 q => ?_, ρ, fun a b va sb => ?_⟩
      · rw [c5, cb 94 (by decide), cb 95 (by decide)]
        by_cases d : k = r
        · subst d
          dsimp only
          rw [up1_eq, M94, M95]
          exact ⟨hx, hk⟩
        · dsimp only
          rw [up1_ne (by omega)]
          exact n1 k k0 k1
      · rw [cf 118 (by decide) (by decide) (by decide) (by decide) (by decide), c_Vs cb, cb 94 (by decide), cb 95 (by decide)]
        exact n2 o o0 o1
      · rw [cf 116 (by decide) (by decide) (by decide) (by decide) (by decide)] at q
        rw [c_Vs cb]
        exact n3 o o0 o1 q
      · rw [c_Vs cb] at va
        rw [cf 118 (by decide) (by decide) (by decide) (by decide) (by decide), c_Sb cb, cb 96 (by decide)] at sb
        exact n4 a b va sb
    · unfold WG at p4 ⊢
      rw [cf 94 (by decide) (by decide) (by decide) (by decide) (by decide), cf 126 (by decide) (by decide) (by decide) (by decide) (by decide), c9, c23, c24, c25]
      refine ⟨fun u k hu k0 k1 => ?_, fun k => ?_, p4.2.2.1, p4.2.2.2.1, fun u hu => ?_⟩
      · by_cases e : k = 600 * s + M 119 s
        · rw [e, up1_eq, up1_eq, M94] at *
          exact ⟨old, hx⟩
        · rw [up1_ne e, up1_ne e]
          have hk : k < 600 * u + M 119 u := by
            by_cases z : u = s
            · subst z; rw [up1_eq] at k1; omega
            · rw [up1_ne z] at k1; exact k1
          exact p4.1 u k hu k0 hk
      · by_cases e : k = 600 * s + M 119 s
        · rw [e, up1_eq]; exact p4.2.2.2.1
        · rw [up1_ne e]; exact p4.2.1 k
      · by_cases z : u = s
        · subst z; rw [up1_eq]; omega
        · rw [up1_ne z]; exact p4.2.2.2.2 u hu
theorem BP_bF {s : Int} (hs : s = 0 ∨ s = 1) (hE : ∀ r, 0 ≤ r → r < 6 → (0 ≤ D 131 (6 * s + r) ∧ D 131 (6 * s + r) ≤ D 94 0) ∧ (D 131 (6 * s + r) ≠ 0 → 2 ≤ D 95 (D 131 (6 * s + r) - 1))) (hT : D 94 0 ≤ 120) (hl : 0 ≤ D 119 s ∧ D 119 s + eN D s ≤ 590) (P : BP D s D) : ∀ k : Nat, k ≤ 6 → BP D s (bF D s k) ∧ D 119 s ≤ bF D s k 119 s ∧ bF D s k 119 s ≤ D 119 s + cN (fun i => D 129 (6 * s + i) ≠ 0) k := by
  intro k
  induction k with
  | zero =>
    intro _
    refine ⟨P, Int.le_refl _, ?_⟩
    show D 119 s ≤ D 119 s + 0
    omega
  | succ k ih =>
    intro hk
    obtain ⟨q1, q2, q3⟩ := ih (by omega)
    have cs := cN_s (P := fun i => D 129 (6 * s + i) ≠ 0) (k := (k : Int)) (by omega)
    rw [show ((k : Int) + 1).toNat = k + 1 by omega, show (k : Int).toNat = k by omega] at cs
    have sp := cN_split (P := fun i => D 129 (6 * s + i) ≠ 0) 6 (k + 1) hk
    have hen : eN D s = cN (fun i => D 129 (6 * s + i) ≠ 0) 6 := rfl
    have e9 : bF D s k 129 = D 129 := q1.1 129 (by decide) (by decide) (by decide) (by decide) (by decide)
    have e31 : bF D s k 131 = D 131 := q1.1 131 (by decide) (by decide) (by decide) (by decide) (by decide)
    have bs : bF D s (k + 1) = if bF D s k 129 (6 * s + (k : Int)) = 0 then bF D s k else bE (bF D s k) (6 * s + (k : Int)) (bF D s k 131 (6 * s + (k : Int))) := rfl
    have b1 := b01_or (D 129 (6 * s + (k : Int)) ≠ 0)
    rw [bs, e9, e31]
    by_cases c : D 129 (6 * s + (k : Int)) = 0
    · rw [if_pos c]
      exact ⟨q1, q2, by omega⟩
    · rw [b01_t c] at cs
      rw [if_neg c]
      have hh := hE k (by omega) (by omega)
      have b := bE_119b (I := bF D s k) (s := s) (r := (k : Int)) (x := D 131 (6 * s + (k : Int))) (by omega)
      exact ⟨BP_bE hs (by omega) hh.1 hh.2 hT (by omega) q1, by omega, by omega⟩
theorem IVX_cX {s : Int} (V : IVX n J) (hs : s = 0 ∨ s = 1) : IVX n (cX J s) ∧ ∀ u, u = 0 ∨ u = 1 → u ≠ s → SU J (cX J s) u := by
  have f : ∀ a, a ≠ 129 → cX J s a = J a := fun a ha => rowU_ne ha
  have r9 : cX J s 129 = fillR (J 129) (6 * s) (6 * s + 6) (fun _ => 0) := rowU_eq
  have S : ∀ u, u = 0 ∨ u = 1 → u ≠ s → SU J (cX J s) u := fun u hu hn b b0 b1 j j0 j1 => by
    by_cases c : b = 129
    · subst c
      rw [show wd 129 = 6 from rfl] at j0 j1
      rw [r9]; exact fillR_out (by omega)
    · rw [f b c]
  have en : eN (cX J s) s = 0 := eN_0 (fun r r0 r1 => by rw [r9, fillR_in (by omega)])
  have e0 := iv_eN (J := J) (s := s)
  have l := ix_l V hs
  have hT := ix_t V
  refine ⟨IVX_mk (s := s) V hs (fun c hc => f c (by omega)) S (c_WT (fun c hc => f c (by omega)) (ix_T V)) (by rw [f 110 (by omega)]; exact ix_110 V) (by rw [f 116 (by omega)]; exact ix_116 V) (by rw [f 117 (by omega)]; exact ix_117 V) (by rw [f 127 (by omega)]; exact ix_127 V) ⟨⟨fun j => ?_, ?_⟩, ?_⟩ (c_WG (fun c hc => f c (by omega)) (ix_G V)) (c_WQ (fun c hc => f c (by omega)) (ix_Q V)) (c_WO (fun c hc => f c (by omega)) (ix_O V)) (c_PM (fun c hc => f c (by omega)) (ix_M V)) (c_PD (fun c hc => f c (by omega)) (ix_P V)) (c_ZO (fun c hc => f c (by omega)) (ix_Z V)) (c_Z7 (fun c hc => f c (by omega)) (ix_Z7 V)) (by rw [f 126 (by omega)]; exact ix_126 V) (NSs_f (fun c hc => f c (by omega)) (by omega) (ix_N V hs)) (by rw [f 119 (by decide), en]; omega) (Int.le_refl _), S⟩
  · rw [r9]
    by_cases c : 6 * s ≤ j ∧ j < 6 * s + 6
    · rw [fillR_in c]; exact Or.inl rfl
    · rw [fillR_out c]; exact (ix_E V).1.1 j
  · rw [f 131 (by decide), f 94 (by decide)]; exact (ix_E V).1.2
  · rw [f 131 (by decide), f 95 (by decide)]; exact (ix_E V).2
/-- the heap has grown, in one store alone -/
theorem RS_nt {s : Int} {c w : Nat} (E : EV n h I J) (hs : s = 0 ∨ s = 1) (f : ∀ a, (94 ≤ a ∧ a ≤ 100) ∨ a = 132 → K a = J a) (S : SU J K (1 - s)) (Cs : CS h1 I1 K (sto s) s) (X : XT h h1 c w) (hc : c ≤ 40) (hw : w ≤ 4000) (O1 : OWN h1) (r : ∀ x k, OAr x → x ≠ sto s + 4 → x ≠ sto s + 20 → hR h1 x k = hR h x k)
    (fI : ∀ c, (c < sto s ∨ sto s + 31 < c) → c < hN h → (∀ x k a, (x = sto s + 4 ∨ x = sto s + 20) → hR h x k = some a → c < a ∨ a + owz x < c) → I1 c = I c) : RS h I h1 I1 K := by
  have O := E.2.1
  have ss := sto_o (s := s)
  have su := sto_o (s := 1 - s)
  have dif : sto (1 - s) = 10 ∧ sto s = 42 ∨ sto (1 - s) = 42 ∧ sto s = 10 := by
    obtain rfl | rfl := hs
    · exact Or.inr ⟨rfl, rfl⟩
    · exact Or.inl ⟨rfl, rfl⟩
  have o4 : OAr (sto s + 4) := by unfold OAr; omega
  have o20 : OAr (sto s + 20) := by unfold OAr; omega
  have low : ∀ c, (c < sto s ∨ sto s + 31 < c) → c < 140 → I1 c = I c := fun c hc h140 => fI c hc (by have := O.1; omega) (fun x k a hx ha => by
    have ox : OAr x := by obtain rfl | rfl := hx; exact o4; exact o20
    have := (O.2.1 x k a ox ha).1.1
    omega)
  have far : ∀ y j b, (y = sto (1 - s) + 4 ∨ y = sto (1 - s) + 20) → hR h y j = some b → ∀ c, b ≤ c → c ≤ b + owz y → I1 c = I c := fun y j b hy hb c c0 c1 => by
    have oy : OAr y := by unfold OAr; omega
    have w1 := (O.2.1 y j b oy hb).1
    exact fI c (by omega) (by omega) (fun x k a hx ha => by
      have ox : OAr x := by obtain rfl | rfl := hx; exact o4; exact o20
      have := O.2.2 x k a y j b ox oy ha hb
      omega)
  have z4 : owz (sto (1 - s) + 1 + 3) = 5 := if_pos (by omega)
  have z20 : owz (sto (1 - s) + 1 + 19) = 4 := if_neg (by omega)
  refine ⟨XT_w X hc hw, O1, CPL_op E hs f S Cs (fun D => DC_kp O X (by omega) (fun k => r _ k (by unfold OAr; omega) (by omega) (by omega)) (fun k => r _ k (by unfold OAr; omega) (by omega) (by omega)) (fun c c0 c1 => low c (by omega) (by omega)) (fun p a ha c c0 c1 => far (sto (1 - s) + 1 + 3) p a (by omega) ha c c0 (by rw [z4]; exact c1)) (fun i a ha c c0 c1 => far (sto (1 - s) + 1 + 19) i a (by omega) ha c c0 (by rw [z20]; exact c1)) D) (fun c c94 hc => low c hc (by omega)), fun a a0 a1 => low a (by omega) (by omega)⟩
end OPS7
