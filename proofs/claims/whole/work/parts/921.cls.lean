/-! ===== what always holds (2): without the deeds' bookkeeping; by rows ===== -/
def NSs (J : Nat → Int → Int) (s : Int) : Prop := NL J s ∧ NtC J s ∧ ∀ t, SlU J s t → SlN J s t
def IVX (n : Int) (J : Nat → Int → Int) : Prop :=
  (RB J ∧ WU J ∧ WD J) ∧ WT J ∧ (B2 (J 110) ∧ B2 (J 116) ∧ B2 (J 117) ∧ B2 (J 127)) ∧ (WE2 J ∧ WG J ∧ WQ2 J ∧ WO2 J) ∧ (PM J ∧ PDs J ∧ ZO J ∧ ZP7 J) ∧
  ((∀ k, J 126 k = -1000 ∨ 0 ≤ J 126 k) ∧ WV1 J) ∧ (NSs J 0 ∧ NSs J 1) ∧
  (J 94 9 = 0 ∨ J 94 9 = 1) ∧ (0 ≤ J 94 41 ∧ J 94 41 ≤ 100) ∧ (0 ≤ J 94 8 ∧ J 94 8 ≤ 100 * n) ∧ ∀ s, s = 0 ∨ s = 1 → J 119 s + eN J s ≤ n
theorem INV_of {n : Int} {J : Nat → Int → Int} (V : IVX n J) (r0 : RD J 0) (r1 : RD J 1) : INV n J := by
  obtain ⟨a, b, c, d, e, f, g, i⟩ := V
  exact ⟨a, b, c, d, e, f, ⟨⟨r0, g.1⟩, ⟨r1, g.2⟩⟩, i⟩
theorem IVX_of {n : Int} {J : Nat → Int → Int} (V : INV n J) : IVX n J := by
  obtain ⟨a, b, c, d, e, f, g, i⟩ := V
  exact ⟨a, b, c, d, e, f, ⟨g.1.2, g.2.2⟩, i⟩
section IVXF
variable {n m : Int} {J K : Nat → Int → Int}
theorem ix_T (V : IVX n J) : WT J := V.2.1
theorem ix_110 (V : IVX n J) : B2 (J 110) := V.2.2.1.1
theorem ix_116 (V : IVX n J) : B2 (J 116) := V.2.2.1.2.1
theorem ix_117 (V : IVX n J) : B2 (J 117) := V.2.2.1.2.2.1
theorem ix_127 (V : IVX n J) : B2 (J 127) := V.2.2.1.2.2.2
theorem ix_E (V : IVX n J) : WE2 J := V.2.2.2.1.1
theorem ix_G (V : IVX n J) : WG J := V.2.2.2.1.2.1
theorem ix_Q (V : IVX n J) : WQ2 J := V.2.2.2.1.2.2.1
theorem ix_O (V : IVX n J) : WO2 J := V.2.2.2.1.2.2.2
theorem ix_M (V : IVX n J) : PM J := V.2.2.2.2.1.1
theorem ix_P (V : IVX n J) : PDs J := V.2.2.2.2.1.2.1
theorem ix_Z (V : IVX n J) : ZO J := V.2.2.2.2.1.2.2.1
theorem ix_Z7 (V : IVX n J) : ZP7 J := V.2.2.2.2.1.2.2.2
theorem ix_126 (V : IVX n J) : ∀ k, J 126 k = -1000 ∨ 0 ≤ J 126 k := V.2.2.2.2.2.1.1
theorem ix_V1 (V : IVX n J) : WV1 J := V.2.2.2.2.2.1.2
theorem ix_N {s : Int} (V : IVX n J) (hs : s = 0 ∨ s = 1) : NSs J s := by
  obtain rfl | rfl := hs
  · exact V.2.2.2.2.2.2.1.1
  · exact V.2.2.2.2.2.2.1.2
theorem ix_8 (V : IVX n J) : 0 ≤ J 94 8 ∧ J 94 8 ≤ 100 * n := V.2.2.2.2.2.2.2.2.2.1
theorem ix_l {s : Int} (V : IVX n J) (hs : s = 0 ∨ s = 1) : J 119 s + eN J s ≤ n := V.2.2.2.2.2.2.2.2.2.2 s hs
theorem ix_t (V : IVX n J) : 0 ≤ J 94 0 ∧ J 94 0 ≤ 100 := V.1.1.1.1
/-! each thing by the rows that it speaks of -/
theorem c_WE (f : ∀ a, a = 94 ∨ a = 95 ∨ a = 129 ∨ a = 131 → K a = J a) (x : WE2 J) : WE2 K := by
  unfold WE2 WE; rw [f 94 (by decide), f 95 (by decide), f 129 (by decide), f 131 (by decide)]; exact x
theorem c_WG (f : ∀ a, a = 94 ∨ a = 119 ∨ (123 ≤ a ∧ a ≤ 126) → K a = J a) (x : WG J) : WG K := by
  unfold WG; rw [f 94 (by decide), f 119 (by decide), f 123 (by decide), f 124 (by decide), f 125 (by decide), f 126 (by decide)]; exact x
theorem c_WQ (f : ∀ a, a = 94 ∨ (104 ≤ a ∧ a ≤ 106) ∨ a = 108 → K a = J a) (x : WQ2 J) : WQ2 K := by
  unfold WQ2 WQc; rw [f 94 (by decide), f 104 (by decide), f 105 (by decide), f 106 (by decide), f 108 (by decide)]; exact x
theorem c_WO (f : ∀ a, a = 121 ∨ a = 122 → K a = J a) (x : WO2 J) : WO2 K := by
  unfold WO2 WO; rw [f 121 (by decide), f 122 (by decide)]; exact x
theorem c_PM (f : ∀ a, 108 ≤ a ∧ a ≤ 110 → K a = J a) (x : PM J) : PM K := by
  unfold PM; rw [f 108 (by decide), f 109 (by decide), f 110 (by decide)]; exact x
theorem c_PD (f : ∀ a, a = 108 ∨ a = 111 ∨ a = 112 → K a = J a) (x : PDs J) : PDs K := by
  unfold PDs PD; rw [f 108 (by decide), f 111 (by decide), f 112 (by decide)]; exact x
theorem c_ZO (f : ∀ a, a = 94 ∨ a = 101 ∨ a = 102 → K a = J a) (x : ZO J) : ZO K := by
  unfold ZO; rw [f 94 (by decide), f 101 (by decide), f 102 (by decide)]; exact x
theorem c_Z7 (f : ∀ a, a = 94 ∨ a = 127 → K a = J a) (x : ZP7 J) : ZP7 K := by
  unfold ZP7; rw [f 94 (by decide), f 127 (by decide)]; exact x
theorem c_at (f : ∀ a, 94 ≤ a ∧ a ≤ 98 → K a = J a) : atR K = atR J := by
  funext o j
  unfold atR fnd
  rw [f 94 (by decide), f 97 (by decide), f 98 (by decide)]
theorem c_Lk (f : ∀ a, 94 ≤ a ∧ a ≤ 98 → K a = J a) : Lk K = Lk J := by unfold Lk; rw [f 95 (by decide), f 96 (by decide)]
theorem c_Vs (f : ∀ a, 94 ≤ a ∧ a ≤ 98 → K a = J a) : Vs K = Vs J := by unfold Vs; rw [f 94 (by decide), f 95 (by decide)]
theorem c_Sb (f : ∀ a, 94 ≤ a ∧ a ≤ 98 → K a = J a) : Sb K = Sb J := by unfold Sb; rw [c_at f]
theorem c_V1 (f : ∀ a, 94 ≤ a ∧ a ≤ 98 → K a = J a) (x : WV1 J) : WV1 K := by
  unfold WV1; rw [c_Lk f, c_at f, f 94 (by decide), f 95 (by decide)]; exact x
theorem c_WB (f : ∀ a, 94 ≤ a ∧ a ≤ 98 → K a = J a) (x : WB J) : WB K := by
  rw [WB_e (I := J) (by rw [f 94 (by decide)]) (f 95 (by decide)) (f 96 (by decide)) (f 97 (by decide)) (f 98 (by decide))]; exact x
theorem c_RB (f : ∀ a, 94 ≤ a ∧ a ≤ 98 → K a = J a) (x : RB J) : RB K := by
  rw [RB_J (by rw [f 94 (by decide)]) (f 95 (by decide)) (f 96 (by decide)) (f 97 (by decide)) (f 98 (by decide))]; exact x
theorem c_WU (f : ∀ a, 94 ≤ a ∧ a ≤ 98 → K a = J a) (x : WU J) : WU K := by
  unfold WU; rw [f 94 (by decide), f 95 (by decide), f 96 (by decide), f 97 (by decide)]; exact x
theorem c_WK (f : ∀ a, a = 94 ∨ a = 108 ∨ (111 ≤ a ∧ a ≤ 113) → K a = J a) (x : WK J) : WK K := by
  rw [WK_e (I := J) (by rw [f 94 (by decide)]) (f 108 (by decide)) (f 111 (by decide)) (f 112 (by decide)) (f 113 (by decide))]; exact x
theorem c_WL (f : ∀ a, a = 101 ∨ a = 103 ∨ a = 107 → K a = J a) (x : WL J) : WL K := by
  unfold WL; rw [f 101 (by decide), f 103 (by decide), f 107 (by decide)]; exact x
theorem c_OB (f : ∀ a, 94 ≤ a ∧ a ≤ 98 → K a = J a) : OB J K := fun o _ _ => by
  rw [f 96 (by decide), f 97 (by decide)]
  exact ⟨rfl, fun _ _ _ => rfl⟩
theorem NtOK_c {r b g r2 b2 g2 : Int → Int} (f : ∀ a, 94 ≤ a ∧ a ≤ 98 → K a = J a) (ht : J 94 0 ≤ 120) (hr : ∀ k, 0 ≤ k → k < 6 → r2 k = r k) (hb : ∀ o, 0 ≤ o → o < 120 → b2 o = b o) (hg : ∀ o, 0 ≤ o → o < 120 → g2 o ≠ 0 → g o ≠ 0) (N : NtOK J r b g) : NtOK K r2 b2 g2 := by
  obtain ⟨n1, n2, n3, ρ, n4⟩ := N
  refine ⟨fun k k0 k1 => ?_, fun o o0 o1 => ?_, fun o o0 o1 q => ?_, ρ, fun a c va sb => ?_⟩
  · rw [hr k k0 k1, f 94 (by decide), f 95 (by decide)]
    exact n1 k k0 k1
  · rw [hb o o0 o1, c_Vs f, f 94 (by decide), f 95 (by decide)]
    exact n2 o o0 o1
  · rw [c_Vs f]
    exact n3 o o0 o1 (hg o o0 o1 q)
  · rw [c_Vs f] at va
    have e : sbv b2 a = sbv b a := by
      unfold sbv
      rw [hb a va.1.1 (by have := va.1.2; omega)]
    rw [c_Sb f, e, f 96 (by decide)] at sb
    exact n4 a c va sb
/-- the notes of a store whose rows stay -/
theorem NSs_o {u : Int} (f : ∀ a, 94 ≤ a ∧ a ≤ 98 → K a = J a) (ht : J 94 0 ≤ 120) (hu : u = 0 ∨ u = 1) (h30 : 0 ≤ J 104 u ∧ J 104 u ≤ 30) (S : SU J K u) (N : NSs J u) : NSs K u := by
  have k4 : K 104 u = J 104 u := SU_r S 104 1 rfl (by decide) u (by omega)
  have k19 : K 119 u = J 119 u := SU_r S 119 1 rfl (by decide) u (by omega)
  have k5 : ∀ k, 0 ≤ k → k < J 104 u → K 105 (30 * u + k) = J 105 (30 * u + k) := fun k k0 k1 => SU_r S 105 30 rfl (by decide) _ (by omega)
  obtain ⟨n1, n2, n3⟩ := N
  refine ⟨⟨?_, fun k k0 k1 q => ?_⟩, ?_, fun t ht2 => ?_⟩
  · rw [SU_r S 122 31 rfl (by decide) _ (by omega), k19]
    exact n1.1
  · rw [k4] at k1
    rw [k5 k k0 k1] at q
    rw [SU_r S 122 31 rfl (by decide) _ (by omega), k19]
    exact n1.2 k k0 k1 q
  · exact NtOK_c f ht (fun k k0 k1 => SU_r S 115 6 rfl (by decide) _ (by omega)) (fun o o0 o1 => SU_r S 118 120 rfl (by decide) _ (by omega)) (fun o o0 o1 q => by rw [SU_r S 116 120 rfl (by decide) (120 * u + o) (by omega)] at q; exact q) n2
  · have hj : SlU J u t := by
      obtain q | ⟨k, hk, q, e⟩ := ht2
      · exact Or.inl q
      · rw [k4] at hk
        rw [k5 k hk.1 hk.2] at q
        exact Or.inr ⟨k, hk, q, e⟩
    have tb : 0 ≤ t ∧ t ≤ 30 := by
      obtain q | ⟨k, hk, q, e⟩ := hj
      · omega
      · omega
    exact NtOK_c f ht (fun k k0 k1 => SU_r S 120 186 rfl (by decide) _ (by omega)) (fun o o0 o1 => by rw [SU_r S 121 3720 rfl (by decide) _ (by omega)]) (fun o o0 o1 q => by rw [SU_r S 121 3720 rfl (by decide) _ (by omega)] at q; exact q) (n3 t hj)
theorem c_eN {u : Int} (hu : u = 0 ∨ u = 1) (S : SU J K u) : eN K u = eN J u := cN_c 6 (fun k k0 k1 => by rw [SU_r S 129 6 rfl (by decide) (6 * u + k) (by omega)])
/-! frames of the other store -/
theorem SU_t {L : Nat → Int → Int} {u : Int} (S : SU J K u) (T : SU K L u) : SU J L u := fun a a0 a1 j j0 j1 => (T a a0 a1 j j0 j1).trans (S a a0 a1 j j0 j1)
theorem SU_rf {u : Int} : SU J J u := fun _ _ _ _ _ _ => rfl
theorem SU_w {a : Nat} {g : Int → Int} {u : Int} (h : ∀ j, wd a * u ≤ j → j < wd a * u + wd a → g j = J a j) : SU J (rowU J a g) u := fun b b0 b1 j j0 j1 => by
  by_cases c : b = a
  · subst c
    rw [rowU_eq]
    exact h j j0 j1
  · rw [rowU_ne c]
theorem SU_kN {s t u : Int} (ht : 0 ≤ t ∧ t ≤ 30) (hu : u = 0 ∨ u = 1) (hs : s = 0 ∨ s = 1) (hn : u ≠ s) : SU J (kN J s t) u := by
  intro b b0 b1 j j0 j1
  unfold kN
  by_cases c2 : b = 122
  · subst c2
    rw [show wd 122 = 31 from rfl] at j0 j1
    rw [rowU_eq]
    exact up1_ne (by omega)
  · rw [rowU_ne c2]
    by_cases c1 : b = 121
    · subst c1
      rw [show wd 121 = 3720 from rfl] at j0 j1
      rw [rowU_eq]
      exact fillR_out (by omega)
    · rw [rowU_ne c1]
      by_cases c0 : b = 120
      · subst c0
        rw [show wd 120 = 186 from rfl] at j0 j1
        rw [rowU_eq]
        exact fillR_out (by omega)
      · rw [rowU_ne c0]
theorem SU_z {a : Nat} {k v u s : Int} (w : Int) (hw : wd a = w) (hk : w * s ≤ k ∧ k < w * s + w) (h : ∀ j, w * u ≤ j → j < w * u + w → j ≠ k) : SU J (zu2 J a k v) u := by
  rw [zu2_row]
  exact SU_w (fun j j0 j1 => up1_ne (h j (by rw [← hw]; exact j0) (by rw [← hw]; exact j1)))
theorem SU_sY {s u : Int} (hT : 0 ≤ J 94 0 ∧ J 94 0 ≤ 100) (hu : u = 0 ∨ u = 1) (hs : s = 0 ∨ s = 1) (hn : u ≠ s) : SU J (sY J s) u := by
  have a : SU J (sJ J s) u := by
    intro b b0 b1 j j0 j1
    unfold sJ
    by_cases c : b = 110
    · subst c
      rw [show wd 110 = 20 from rfl] at j0 j1
      rw [rowU_eq]
      exact fillR_out (by omega)
    · rw [rowU_ne c]
      by_cases c1 : b = 101
      · subst c1
        rw [show wd 101 = 120 from rfl] at j0 j1
        rw [rowU_eq]
        exact fillR_out (by omega)
      · rw [rowU_ne c1]
        by_cases c2 : b = 103
        · subst c2
          rw [show wd 103 = 120 from rfl] at j0 j1
          rw [rowU_eq]
          exact fillR_out (by omega)
        · rw [rowU_ne c2]
          by_cases c3 : b = 102
          · subst c3
            rw [show wd 102 = 120 from rfl] at j0 j1
            rw [rowU_eq]
            exact fillR_out (by omega)
          · rw [rowU_ne c3]
  refine SU_t (SU_t a (SU_kN (s := s) (t := 0) (by decide) hu hs hn)) ?_
  intro b b0 b1 j j0 j1
  by_cases c : b = 104
  · subst c
    rw [show wd 104 = 1 from rfl] at j0 j1
    unfold sY
    rw [rowU_eq, up1_ne (by omega), kN_f (by decide) (by decide) (by decide)]
    unfold sJ
    rw [rowU_ne (by decide), rowU_ne (by decide), rowU_ne (by decide), rowU_ne (by decide)]
  · unfold sY
    rw [rowU_ne c]
theorem SU_dA {s u a o : Int} (hd : 0 ≤ J 104 s ∧ J 104 s < 30) (hu : u = 0 ∨ u = 1) (hs : s = 0 ∨ s = 1) (hn : u ≠ s) : SU J (dA J s a o) u := by
  intro b b0 b1 j j0 j1
  unfold dA
  by_cases c : b = 104
  · subst c
    rw [show wd 104 = 1 from rfl] at j0 j1
    rw [rowU_eq]
    exact up1_ne (by omega)
  · rw [rowU_ne c]
    by_cases c1 : b = 107
    · subst c1
      rw [show wd 107 = 30 from rfl] at j0 j1
      rw [rowU_eq]
      exact up1_ne (by omega)
    · rw [rowU_ne c1]
      by_cases c2 : b = 106
      · subst c2
        rw [show wd 106 = 30 from rfl] at j0 j1
        rw [rowU_eq]
        exact up1_ne (by omega)
      · rw [rowU_ne c2]
        by_cases c3 : b = 105
        · subst c3
          rw [show wd 105 = 30 from rfl] at j0 j1
          rw [rowU_eq]
          exact up1_ne (by omega)
        · rw [rowU_ne c3]
theorem SU_dO {s u a o : Int} (T : WT J) (hu : u = 0 ∨ u = 1) (hs : s = 0 ∨ s = 1) (hn : u ≠ s) : SU J (dO J s a o) u := by
  have h30 := T.2.2.2.2.2.1 s hs
  have a1 : SU J (dJ J s) u := by
    unfold dJ
    split
    · exact SU_sY T.1.1 hu hs hn
    · exact SU_rf
  exact SU_t a1 (SU_dA (dJ_104 h30) hu hs hn)
end IVXF
