/-! ===== the calls (11): crash ===== -/
section OPS6
variable {n : Int} {h h1 : HP} {I I1 J K : Nat → Int → Int}
def cP (J : Nat → Int → Int) (s : Int) (M : Nat → Int → Int) : Prop := (∀ u, u = 0 ∨ u = 1 → u ≠ s → SU J M u) ∧ B2 (M 103) ∧ (∀ u o, u = 0 ∨ u = 1 → J 94 0 ≤ o → o < 120 → M 102 (120 * u + o) = 0) ∧ ∀ u p, u = 0 ∨ u = 1 → J 108 u ≤ p → p < 20 → M 110 (20 * u + p) = 0
theorem cP_kD {M : Nat → Int → Int} {s k : Int} (V : IVX n J) (hs : s = 0 ∨ s = 1) (hk : 0 ≤ k ∧ k < J 104 s) (e5 : M 105 = J 105) (e6 : M 106 = J 106) (e7 : M 107 = J 107) (P : cP J s M) : cP J s (kD M s k) := by
  have hT := ix_t V
  have T := ix_T V
  have hm := T.2.2.2.1.1
  have hms := hm s hs
  obtain ⟨q1, q2, q3⟩ := (ix_Q V).1 s k hs hk.1 hk.2
  obtain ⟨w0, w1⟩ := (ix_Q V).2 s k hs hk.1 hk.2
  have b7 := T.2.1.2.1 (30 * s + k)
  obtain ⟨p1, p2, p3, p4⟩ := P
  unfold kD
  rw [e5, e6, e7]
  by_cases c0 : J 105 (30 * s + k) = 0
  · have o1 := q2 (Or.inl c0)
    have o2 := w0 c0
    rw [if_pos c0]
    refine ⟨fun u hu hn => ?_, fun j => ?_, fun u o hu o0 o1 => ?_, fun u p hu x0 x1 => ?_⟩
    · refine SU_t (p1 u hu hn) ?_
      rw [← zu2_row]
      refine SU_t (SU_z (J := M) (a := 102) (k := 120 * s + J 106 (30 * s + k)) (v := 1) 120 rfl (s := s) (by omega) (fun j j0 j1 => by omega)) ?_
      rw [show M 103 = zu2 M 102 (120 * s + J 106 (30 * s + k)) 1 103 by rw [zu2_row, rowU_ne (by decide)], ← zu2_row]
      exact SU_z 120 rfl (s := s) (by omega) (fun j j0 j1 => by omega)
    · rw [rowU_eq]
      by_cases c : j = 120 * s + J 106 (30 * s + k)
      · rw [c, up1_eq]; exact b7
      · rw [up1_ne c]; exact p2 j
    · rw [rowU_ne (by decide), rowU_eq, up1_ne (by omega)]
      exact p3 u o hu o0 o1
    · rw [rowU_ne (by decide), rowU_ne (by decide)]
      exact p4 u p hu x0 x1
  · rw [if_neg c0]
    by_cases c1 : J 105 (30 * s + k) = 1
    · have o1 := q3 (Or.inl c1)
      have o2 := w1 c1
      rw [if_pos c1]
      refine ⟨fun u hu hn => ?_, by rw [rowU_ne (by decide)]; exact p2, fun u o hu o0 o1 => by rw [rowU_ne (by decide)]; exact p3 u o hu o0 o1, fun u p hu x0 x1 => ?_⟩
      · refine SU_t (p1 u hu hn) ?_
        rw [← zu2_row]
        exact SU_z 20 rfl (s := s) (by omega) (fun j j0 j1 => by omega)
      · have hmu := hm u hu
        have ne : 20 * u + p ≠ J 106 (30 * s + k) := by
          intro z
          obtain rfl | rfl := hu <;> obtain rfl | rfl := hs <;> omega
        rw [rowU_eq, up1_ne ne]
        exact p4 u p hu x0 x1
    · rw [if_neg c1]
      by_cases c2 : J 105 (30 * s + k) = 2
      · have o1 := q2 (Or.inr c2)
        rw [if_pos c2]
        refine ⟨fun u hu hn => ?_, by rw [rowU_ne (by decide)]; exact p2, fun u o hu o0 o1 => ?_, fun u p hu x0 x1 => by rw [rowU_ne (by decide)]; exact p4 u p hu x0 x1⟩
        · refine SU_t (p1 u hu hn) ?_
          rw [← zu2_row]
          exact SU_z 120 rfl (s := s) (by omega) (fun j j0 j1 => by omega)
        · rw [rowU_eq]
          by_cases c : 120 * u + o = 120 * s + J 106 (30 * s + k)
          · rw [c, up1_eq]
          · rw [up1_ne c]; exact p3 u o hu o0 o1
      · rw [if_neg c2]
        by_cases c3 : J 105 (30 * s + k) = 3
        · have o1 := q3 (Or.inr c3)
          rw [if_pos c3]
          refine ⟨fun u hu hn => ?_, by rw [rowU_ne (by decide)]; exact p2, fun u o hu o0 o1 => by rw [rowU_ne (by decide)]; exact p3 u o hu o0 o1, fun u p hu x0 x1 => ?_⟩
          · refine SU_t (p1 u hu hn) ?_
            rw [← zu2_row]
            exact SU_z 20 rfl (s := s) (by omega) (fun j j0 j1 => by omega)
          · rw [rowU_eq]
            by_cases c : 20 * u + p = J 106 (30 * s + k)
            · rw [c, up1_eq]
            · rw [up1_ne c]; exact p4 u p hu x0 x1
        · rw [if_neg c3]
          exact ⟨p1, p2, p3, p4⟩
theorem cP_cS {s x : Int} (V : IVX n J) (hs : s = 0 ∨ s = 1) : ∀ k : Nat, (k : Int) ≤ J 104 s → cP J s (cS J s x k).1 := by
  intro k
  induction k with
  | zero =>
    intro _
    exact ⟨fun u _ _ => SU_rf, (ix_T V).2.1.1, fun u o hu o0 o1 => (ix_Z V u o hu o0 o1).2, fun u p hu p0 p1 => (ix_M V u p hu p0 p1).2⟩
  | succ k ih =>
    intro hk
    have P := ih (by omega)
    have e := cS_s (I := J) (s := s) (x := x) (k := (k : Int)) (by omega)
    rw [show ((k : Int) + 1).toNat = k + 1 by omega, show (k : Int).toNat = k by omega] at e
    rw [e]
    by_cases c : cB J s x k (cS J s x k).2.2
    · rw [if_pos c]
      exact cP_kD V hs (by omega) (cS_f (by decide) (by decide) (by decide) k) (cS_f (by decide) (by decide) (by decide) k) (cS_f (by decide) (by decide) (by decide) k) P
    · rw [if_neg c]
      exact P
theorem tN_WNs {M : Nat → Int → Int} {s t : Int} (N : WN M) (O : WO M) : WN (tN M s t) := tN_WN N O
/-- rows of what a crash leaves -/
theorem cF_r {s x : Int} : ∃ M2 : Nat → Int → Int, M2 = tN (cS J s x (J 104 s).toNat).1 s (cS J s x (J 104 s).toNat).2.1 ∧ (∀ a, a ≠ 101 → a ≠ 104 → a ≠ 109 → (a < 120 ∨ 122 < a) → a ≠ 127 → a ≠ 128 → a ≠ 129 → cF J s x a = M2 a) ∧ (∀ a, 120 ≤ a → a ≤ 122 → cF J s x a = kN M2 s 0 a) ∧
    cF J s x 101 = fillR (J 101) (120 * s) (120 * s + 120) (fun j => if M2 102 j = 0 then 0 else 1) ∧ cF J s x 104 = up1 (J 104) s 0 ∧ cF J s x 109 = fillR (J 109) (20 * s) (20 * s + 20) (M2 110) ∧ cF J s x 127 = fillR (J 127) (120 * s) (120 * s + 120) (fun _ => 0) ∧ cF J s x 128 = fillR (J 128) (120 * s) (120 * s + 120) (fun _ => 0) ∧ cF J s x 129 = fillR (J 129) (6 * s) (6 * s + 6) (fun _ => 0) := by
  refine ⟨_, rfl, ?_⟩
  obtain ⟨M1, hM1⟩ : ∃ M1, M1 = (cS J s x (J 104 s).toNat).1 := ⟨_, rfl⟩
  have m1 : ∀ a, a ≠ 102 → a ≠ 103 → a ≠ 110 → M1 a = J a := fun a h1 h2 h3 => by rw [hM1]; exact cS_f h1 h2 h3 _
  unfold cF
  rw [← hM1]
  obtain ⟨M2, hM2⟩ : ∃ M2, M2 = tN M1 s (cS J s x (J 104 s).toNat).2.1 := ⟨_, rfl⟩
  have m2 : ∀ a, a < 115 ∨ 119 < a → M2 a = M1 a := fun a ha => by rw [hM2]; exact tN_f ha
  rw [← hM2]
  obtain ⟨M3, hM3⟩ : ∃ M3, M3 = kN M2 s 0 := ⟨_, rfl⟩
  have m3 : ∀ a, a < 120 ∨ 122 < a → M3 a = M2 a := fun a ha => by rw [hM3]; exact kN_f (by omega) (by omega) (by omega)
  have r3 : ∀ a, (a < 102 ∨ (103 < a ∧ a < 110) ∨ (110 < a ∧ a < 115) ∨ 122 < a) → M3 a = J a := fun a ha => by rw [m3 a (by omega), m2 a (by omega), m1 a (by omega) (by omega) (by omega)]
  rw [← hM3]
  unfold cE cR
  refine ⟨fun a h1 h2 h3 h4 h5 h6 h7 => ?_, fun a a0 a1 => ?_, ?_, ?_, ?_, ?_, ?_, ?_⟩
  · rw [rowU_ne h2, rowU_ne h7, rowU_ne h3, rowU_ne h6, rowU_ne h5, rowU_ne h1, m3 a h4]
  · rw [rowU_ne (by omega), rowU_ne (by omega), rowU_ne (by omega), rowU_ne (by omega), rowU_ne (by omega), rowU_ne (by omega)]
  · repeat (rw [rowU_ne (by decide)])
    rw [rowU_eq, r3 101 (by decide), m3 102 (by decide)]
  · rw [rowU_eq]
    repeat (rw [rowU_ne (by decide)])
    rw [r3 104 (by decide)]
  · rw [rowU_ne (by decide), rowU_ne (by decide), rowU_eq]
    repeat (rw [rowU_ne (by decide)])
    rw [r3 109 (by decide), m3 110 (by decide)]
  · rw [rowU_ne (by decide), rowU_ne (by decide), rowU_ne (by decide), rowU_ne (by decide), rowU_eq]
    repeat (rw [rowU_ne (by decide)])
    rw [r3 127 (by decide)]
  · rw [rowU_ne (by decide), rowU_ne (by decide), rowU_ne (by decide), rowU_eq]
    repeat (rw [rowU_ne (by decide)])
    rw [r3 128 (by decide)]
  · rw [rowU_ne (by decide), rowU_eq]
    repeat (rw [rowU_ne (by decide)])
    rw [r3 129 (by decide)]
theorem SU_cF {s x u : Int} (V : IVX n J) (hs : s = 0 ∨ s = 1) (hu : u = 0 ∨ u = 1) (hn : u ≠ s) : SU J (cF J s x) u := by
  have h30 := (ix_T V).2.2.2.2.2.1 s hs
  obtain ⟨M2, hM2, f1, f2, r101, r104, r109, r127, r128, r129⟩ := cF_r (J := J) (s := s) (x := x)
  have P := cP_cS (x := x) V hs (J 104 s).toNat (by omega)
  have s2 : SU J M2 u := by
    refine SU_t (P.1 u hu hn) ?_
    rw [hM2]
    intro b b0 b1 j j0 j1
    unfold tN
    by_cases c : b = 119
    · subst c
      rw [show wd 119 = 1 from rfl] at j0 j1
      rw [rowU_eq]; exact up1_ne (by omega)
    · rw [rowU_ne c]
      by_cases c : b = 117
      · subst c
        rw [show wd 117 = 120 from rfl] at j0 j1
        rw [rowU_eq]; exact fillR_out (by omega)
      · rw [rowU_ne c]
        by_cases c : b = 116
        · subst c
          rw [show wd 116 = 120 from rfl] at j0 j1
          rw [rowU_eq]; exact fillR_out (by omega)
        · rw [rowU_ne c]
          by_cases c : b = 118
          · subst c
            rw [show wd 118 = 120 from rfl] at j0 j1
            rw [rowU_eq]; exact fillR_out (by omega)
          · rw [rowU_ne c]
            by_cases c : b = 115
            · subst c
              rw [show wd 115 = 6 from rfl] at j0 j1
              rw [rowU_eq]; exact fillR_out (by omega)
            · rw [rowU_ne c]
  intro b b0 b1 j j0 j1
  by_cases c1 : b = 101
  · subst c1
    rw [show wd 101 = 120 from rfl] at j0 j1
    rw [r101]; exact fillR_out (by omega)
  by_cases c2 : b = 104
  · subst c2
    rw [show wd 104 = 1 from rfl] at j0 j1
    rw [r104]; exact up1_ne (by omega)
  by_cases c3 : b = 109
  · subst c3
    rw [show wd 109 = 20 from rfl] at j0 j1
    rw [r109]; exact fillR_out (by omega)
  by_cases c4 : b = 127
  · subst c4
    rw [show wd 127 = 120 from rfl] at j0 j1
    rw [r127]; exact fillR_out (by omega)
  by_cases c5 : b = 128
  · subst c5
    rw [show wd 128 = 120 from rfl] at j0 j1
    rw [r128]; exact fillR_out (by omega)
  by_cases c6 : b = 129
  · subst c6
    rw [show wd 129 = 6 from rfl] at j0 j1
    rw [r129]; exact fillR_out (by omega)
  by_cases c7 : 120 ≤ b ∧ b ≤ 122
  · rw [f2 b c7.1 c7.2]
    exact SU_t s2 (SU_kN (s := s) (t := 0) (by decide) hu hs hn) b b0 b1 j j0 j1
  · rw [f1 b c1 c2 c3 (by omega) c4 c5 c6]
    exact s2 b b0 b1 j j0 j1
theorem IVX_cF {s x : Int} (V : IVX n J) (hs : s = 0 ∨ s = 1) : IVX n (cF J s x) := by
  have T := ix_T V
  have hT := ix_t V
  have h30 := T.2.2.2.2.2.1 s hs
  obtain ⟨M2, hM2, f1, f2, r101, r104, r109, r127, r128, r129⟩ := cF_r (J := J) (s := s) (x := x)
  obtain ⟨M1, hM1⟩ : ∃ M1, M1 = (cS J s x (J 104 s).toNat).1 := ⟨_, rfl⟩
  obtain ⟨t, ht⟩ : ∃ t, t = (cS J s x (J 104 s).toNat).2.1 := ⟨_, rfl⟩
  have m1 : ∀ a, a ≠ 102 → a ≠ 103 → a ≠ 110 → M1 a = J a := fun a h1 h2 h3 => by rw [hM1]; exact cS_f h1 h2 h3 _
  rw [← hM1, ← ht] at hM2
  have m2 : ∀ a, a < 115 ∨ 119 < a → M2 a = M1 a := fun a ha => by rw [hM2]; exact tN_f ha
  have P := cP_cS (x := x) V hs (J 104 s).toNat (by omega)
  rw [← hM1] at P
  have f : ∀ a, a < 101 ∨ (104 < a ∧ a < 109) ∨ (110 < a ∧ a < 115) ∨ (122 < a ∧ (a < 127 ∨ 129 < a)) → cF J s x a = J a := fun a ha => by rw [f1 a (by omega) (by omega) (by omega) (by omega) (by omega) (by omega) (by omega), m2 a (by omega), m1 a (by omega) (by omega) (by omega)]
  have hsu : SlU J s t ∧ 0 ≤ t ∧ t ≤ 30 := by
    have q := cS_n (J := J) (s := s) (x := x) (J 104 s).toNat
    rw [← ht] at q
    obtain q | q := q
    · exact ⟨Or.inl q, by omega, by omega⟩
    · exact ⟨Or.inr ⟨t - 1, by omega, q.2.2, by omega⟩, by omega, by omega⟩
  have N0 := ix_N V hs
  have sl := N0.2.2 t hsu.1
  obtain ⟨e115, e119, eo⟩ := tN_r (M := M1) (s := s) (t := t)
  rw [← hM2] at e115 e119 eo
  have b110 : B2 (M2 110) := fun j => by
    rw [m2 110 (by decide), hM1]
    exact cS_110 (ix_110 V) _ j
  have out : ∀ a : Nat, a = 116 ∨ a = 117 ∨ a = 118 → ∀ j, ¬(120 * s ≤ j ∧ j < 120 * s + 120) → M2 a j = J a j := fun a ha j hj => by
    rw [hM2]
    unfold tN
    obtain rfl | rfl | rfl := ha
    · rw [rowU_ne (by decide), rowU_ne (by decide), rowU_eq, fillR_out hj, m1 _ (by decide) (by decide) (by decide)]
    · rw [rowU_ne (by decide), rowU_eq, fillR_out hj, m1 _ (by decide) (by decide) (by decide)]
    · rw [rowU_ne (by decide), rowU_ne (by decide), rowU_ne (by decide), rowU_eq, fillR_out hj, m1 _ (by decide) (by decide) (by decide)]
  have inn : ∀ a : Nat, (a = 116 ∨ a = 117) → B2 (J a) → B2 (M2 a) := fun a ha b j => by
    by_cases c : 120 * s ≤ j ∧ j < 120 * s + 120
    · have q := eo (j - 120 * s) (by omega) (by omega)
      rw [show 120 * s + (j - 120 * s) = j by omega] at q
      obtain rfl | rfl := ha
      · rw [q.2.1]; exact b01_or _
      · rw [q.2.2]; exact b01_or _
    · rw [out a (by omega) j c]; exact b j
  have ntM : NtC M2 s := by
    unfold NtC
    refine NtOK_c (J := J) (fun a ha => by rw [m2 a (by omega), m1 a (by omega) (by omega) (by omega)]) (by omega) (fun k k0 k1 => ?_) (fun o o0 o1 => ?_) (fun o o0 o1 q => ?_) sl
    · rw [e115 k k0 k1, m1 120 (by decide) (by decide) (by decide)]
    · rw [(eo o o0 o1).1, m1 121 (by decide) (by decide) (by decide)]
    · rw [(eo o o0 o1).2.1, m1 121 (by decide) (by decide) (by decide)] at q
      intro z
      rw [z] at q
      exact q (b01_f (by decide))
  have wnM : WN M2 := by
    rw [hM2]
    exact tN_WN (by unfold WN; rw [m1 118 (by decide) (by decide) (by decide)]; exact T.2.2.1) (by unfold WO; rw [m1 121 (by decide) (by decide) (by decide)]; exact (ix_O V).1)
  have k119 : ∀ u, cF J s x 119 u = M2 119 u := fun u => by rw [f1 119 (by decide) (by decide) (by decide) (by decide) (by decide) (by decide) (by decide)]
  have m119s : M2 119 s = J 122 (31 * s + t) := by rw [e119, m1 122 (by decide) (by decide) (by decide)]
  have m119u : ∀ u, u ≠ s → M2 119 u = J 119 u := fun u hu => by
    rw [hM2]
    unfold tN
    rw [rowU_eq, up1_ne hu, m1 119 (by decide) (by decide) (by decide)]
  have nl : J 122 (31 * s + t) ≤ J 119 s := by
    obtain q | ⟨k, hk, q5, q⟩ := hsu.1
    · rw [q, Int.add_zero]; exact N0.1.1
    · rw [q]; exact N0.1.2 k hk.1 hk.2 q5
  have np := (ix_O V).2 (31 * s + t)
  have G := ix_G V
  have j9 : ∀ r, 0 ≤ r → r < 6 → cF J s x 129 (6 * s + r) = 0 := fun r r0 r1 => by rw [r129, fillR_in (by omega)]
  refine IVX_mk (s := s) V hs (fun a ha => f a (by omega)) (fun u hu hn => SU_cF V hs hu hn) ⟨c_WB (fun a ha => f a (by omega)) T.1, ⟨?_, ?_, ?_⟩, ?_, c_WK (fun a ha => f a (by omega)) T.2.2.2.1, ?_, fun u hu => ?_, ?_⟩ ?_ ?_ ?_ ?_ ⟨⟨fun j => ?_, ?_⟩, ?_⟩ ?_ ⟨fun u k hu k0 k1 => ?_, fun u k hu k0 k1 => ?_⟩ ⟨?_, fun j => ?_⟩ (fun u p hu p0 p1 => ?_) (c_PD (fun a ha => f a (by omega)) (ix_P V)) (fun u o hu o0 o1 => ?_) (fun u o hu o0 o1 => ?_) (by rw [f 126 (by decide)]; exact ix_126 V) ⟨⟨?_, fun k k0 k1 => ?_⟩, ?_, fun t2 h2 => ?_⟩ ?_ (Int.le_refl _)
  · rw [f1 103 (by decide) (by decide) (by decide) (by decide) (by decide) (by decide) (by decide), m2 103 (by decide)]
    exact P.2.1
  · rw [f 107 (by decide)]; exact T.2.1.2.1
  · intro j
    rw [r101]
    by_cases c : 120 * s ≤ j ∧ j < 120 * s + 120
    · rw [fillR_in c]; split <;> decide
    · rw [fillR_out c]; exact T.2.1.2.2 j
  · unfold WN
    rw [f1 118 (by decide) (by decide) (by decide) (by decide) (by decide) (by decide) (by decide)]
    exact wnM
  · intro j
    rw [r109]
    by_cases c : 20 * s ≤ j ∧ j < 20 * s + 20
    · rw [fillR_in c]; exact b110 j
    · rw [fillR_out c]; exact T.2.2.2.2.1 j
  · rw [r104]
    by_cases c : u = s
    · subst c; rw [up1_eq]; decide
    · rw [up1_ne c]; exact T.2.2.2.2.2.1 u hu
  · rw [f 97 (by decide)]; exact T.2.2.2.2.2.2
  · rw [f1 110 (by decide) (by decide) (by decide) (by decide) (by decide) (by decide) (by decide)]; exact b110
  · rw [f1 116 (by decide) (by decide) (by decide) (by decide) (by decide) (by decide) (by decide)]; exact inn 116 (Or.inl rfl) (ix_116 V)
  · rw [f1 117 (by decide) (by decide) (by decide) (by decide) (by decide) (by decide) (by decide)]; exact inn 117 (Or.inr rfl) (ix_117 V)
  · intro j
    rw [r127]
    by_cases c : 120 * s ≤ j ∧ j < 120 * s + 120
    · rw [fillR_in c]; exact Or.inl rfl
    · rw [fillR_out c]; exact ix_127 V j
  · rw [r129]
    by_cases c : 6 * s ≤ j ∧ j < 6 * s + 6
    · rw [fillR_in c]; exact Or.inl rfl
    · rw [fillR_out c]; exact (ix_E V).1.1 j
  · rw [f 131 (by decide), f 94 (by decide)]; exact (ix_E V).1.2
  · rw [f 131 (by decide), f 95 (by decide)]; exact (ix_E V).2
  · have h119 : ∀ u, u = 0 ∨ u = 1 → 0 ≤ cF J s x 119 u ∧ cF J s x 119 u ≤ J 119 u := fun u hu => by
      rw [k119]
      by_cases c : u = s
      · rw [c, m119s]; exact ⟨np, nl⟩
      · rw [m119u u c]; exact ⟨(G.2.2.2.2 u hu).1, Int.le_refl _⟩
    unfold WG
    rw [f 94 (by decide), f 123 (by decide), f 124 (by decide), f 125 (by decide), f 126 (by decide)]
    exact ⟨fun u k hu k0 k1 => G.1 u k hu k0 (by have := (h119 u hu).2; omega), G.2.1, G.2.2.1, G.2.2.2.1, fun u hu => by have := h119 u hu; have := G.2.2.2.2 u hu; omega⟩
  · rw [r104] at k1
    rw [f 105 (by decide), f 106 (by decide)]
    by_cases c : u = s
    · subst c; rw [up1_eq] at k1; omega
    · rw [up1_ne c] at k1
      exact (ix_Q V).1 u k hu k0 k1
  · rw [r104] at k1
    rw [f 105 (by decide), f 106 (by decide), f 94 (by decide), f 108 (by decide)]
    by_cases c : u = s
    · subst c; rw [up1_eq] at k1; omega
    · rw [up1_ne c] at k1
      exact (ix_Q V).2 u k hu k0 k1
  · unfold WO
    rw [f2 121 (by decide) (by decide)]
    exact WO_kN wnM (by unfold WO; rw [m2 121 (by decide), m1 121 (by decide) (by decide) (by decide)]; exact (ix_O V).1)
  · rw [f2 122 (by decide) (by decide)]
    unfold kN
    rw [rowU_eq]
    by_cases c : j = 31 * s + 0
    · rw [c, up1_eq, m119s]; exact np
    · rw [up1_ne c, m2 122 (by decide), m1 122 (by decide) (by decide) (by decide)]; exact (ix_O V).2 j
  · rw [f 108 (by decide)] at p0
    have z := P.2.2.2 u p hu p0 p1
    have e : M2 110 (20 * u + p) = 0 := by rw [m2 110 (by decide)]; exact z
    rw [r109, f1 110 (by decide) (by decide) (by decide) (by decide) (by decide) (by decide) (by decide)]
    refine ⟨?_, e⟩
    by_cases c : 20 * s ≤ 20 * u + p ∧ 20 * u + p < 20 * s + 20
    · rw [fillR_in c]; exact e
    · rw [fillR_out c]; exact (ix_M V u p hu p0 p1).1
  · rw [f 94 (by decide)] at o0
    have z := P.2.2.1 u o hu o0 o1
    have e : M2 102 (120 * u + o) = 0 := by rw [m2 102 (by decide)]; exact z
    rw [r101, f1 102 (by decide) (by decide) (by decide) (by decide) (by decide) (by decide) (by decide)]
    refine ⟨?_, e⟩
    by_cases c : 120 * s ≤ 120 * u + o ∧ 120 * u + o < 120 * s + 120
    · rw [fillR_in c, if_pos e]
    · rw [fillR_out c]; exact (ix_Z V u o hu o0 o1).1
  · rw [f 94 (by decide)] at o0
    rw [r127]
    by_cases c : 120 * s ≤ 120 * u + o ∧ 120 * u + o < 120 * s + 120
    · rw [fillR_in c]
    · rw [fillR_out c]; exact ix_Z7 V u o hu o0 o1
  · rw [f2 122 (by decide) (by decide), show (31 * s : Int) = 31 * s + 0 by omega, kN_122, k119]
    exact Int.le_refl _
  · rw [r104, up1_eq] at k1; omega
  · unfold NtC
    exact NtOK_c (J := M2) (fun a ha => f1 a (by omega) (by omega) (by omega) (by omega) (by omega) (by omega) (by omega)) (by rw [m2 94 (by decide), m1 94 (by decide) (by decide) (by decide)]; omega) (fun k _ _ => by rw [f1 115 (by decide) (by decide) (by decide) (by decide) (by decide) (by decide) (by decide)]) (fun o _ _ => by rw [f1 118 (by decide) (by decide) (by decide) (by decide) (by decide) (by decide) (by decide)]) (fun o _ _ q => by rw [f1 116 (by decide) (by decide) (by decide) (by decide) (by decide) (by decide) (by decide)] at q; exact q) ntM
  · have t0 : t2 = 0 := by
      obtain q | ⟨k, hk, _⟩ := h2
      · exact q
      · rw [r104, up1_eq] at hk; omega
    subst t0
    have s0 := SlN_kN (M := M2) (s := s) (t := 0) (by rw [m2 94 (by decide), m1 94 (by decide) (by decide) (by decide)]; omega) ntM (inn 117 (Or.inr rfl) (ix_117 V))
    unfold SlN at s0 ⊢
    rw [f2 120 (by decide) (by decide), f2 121 (by decide) (by decide)]
    refine NtOK_c (J := kN M2 s 0) (fun a ha => ?_) (by rw [kN_f (by decide) (by decide) (by decide), m2 94 (by decide), m1 94 (by decide) (by decide) (by decide)]; omega) (fun _ _ _ => rfl) (fun _ _ _ => rfl) (fun _ _ _ q => q) s0
    rw [kN_f (by omega) (by omega) (by omega), f1 a (by omega) (by omega) (by omega) (by omega) (by omega) (by omega) (by omega)]
  · rw [k119, m119s, eN_0 j9]
    have := ix_l V hs
    have := iv_eN (J := J) (s := s)
    omega
noncomputable def crC (s x : Int) : Int := ic (s = 0 ∨ s = 1) (ic (0 ≤ x ∧ x ≤ 1073741823) 0 2) 1
noncomputable def crK (J : Nat → Int → Int) (s x : Int) : Nat → Int → Int := iP ((s = 0 ∨ s = 1) ∧ 0 ≤ x ∧ x ≤ 1073741823) (cF J s x) J
theorem k113 {s x : Int} {v3 : MV} (E : EV n h I J) : ∃ h1 I1, Go 113 0 [.inr (.inl (some 1)), .inl s, .inl x, v3] [] (mI h I) = some (mI h1 I1, oc eA (crC s x) (cL J s x)) ∧ RS h I h1 I1 (crK J s x) ∧ RD2 (crK J s x) := by
  have st := sto_o (s := s)
  have L10 := ly_10 E.1
  have V := ev_V E
  unfold crC crK
  by_cases hs : s = 0 ∨ s = 1
  · by_cases c : 0 ≤ x ∧ x ≤ 1073741823
    · have Cs := ev_s E hs
      obtain ⟨I1, e1, D1, R1, S1, C1, f1⟩ := k80 (h := h) (I := I) (J := J) (st := sto s) (s := s) (x := x) (v2 := vU) st (ly_8 E.1 st) (ly_1 E.1 st) (ly_3 E.1 st) (ly_4k E.1 st) (ly_4 E.1 st) E.2.1 Cs.1 Cs.2.1 (iv_Q V) (iv_T V) (iv_O V) (iv_116 V) (iv_117 V) (iv_110 V) (iv_NL V hs) hs c.1
      have S := SU_cF (x := x) (u := 1 - s) (IVX_of V) hs (by omega) (by omega)
      obtain ⟨M2, hM2, g1, _⟩ := cF_r (J := J) (s := s) (x := x)
      have gf : ∀ a, a < 101 ∨ 129 < a → cF J s x a = J a := fun a ha => by rw [g1 a (by omega) (by omega) (by omega) (by omega) (by omega) (by omega) (by omega), hM2, tN_f (by omega), cS_f (by omega) (by omega) (by omega)]
      rw [iP_t ⟨hs, c⟩]
      exact ⟨h, I1, by rw [ic_t hs, ic_t c, oc_0, b113_0 L10, k142 E.1 hs, caln_r, b113_3, if_neg (by omega), b113_6, if_pos c.2, b113_10 (ly_8 E.1 st), e1, caln_r, b113_13], RS_op E hs (fun a ha => gf a (by omega)) S ⟨D1, S1, C1⟩ f1, RD2_of V hs S R1⟩
    · rw [iP_f (fun q => c q.2), ic_t hs, ic_f c]
      refine ⟨hThr h, I, ?_, RS_x E, RD2_r V⟩
      rw [b113_0 L10, k142 E.1 hs, caln_r, b113_3]
      by_cases d : x < 0
      · rw [if_pos d, b113_9]; rfl
      · rw [if_neg d, b113_6, if_neg (by omega), b113_9]; rfl
  · rw [iP_f (fun q => hs q.1), ic_f hs]
    exact ⟨hThr h, I, by rw [b113_0 L10, k142x hs, caln_x]; rfl, RS_x E, RD2_r V⟩
theorem WQ_of (V : INV n J) : WQ J := fun s k hs k0 k1 => by
  have q := iv_Q V s k hs k0 k1
  exact ⟨q.1, fun r => by have := q.2.1 r; omega, fun r => by have := q.2.2 r; omega⟩
theorem s113 {s x : Int} (E : EV n h I I) (S : WSc I) : STEP 113 [.inr (.inl (some 1)), .inl s, .inl x, vU] 214 [.inr (.inl (some 94)), .inl s, .inl x, vU, vU, vU, vU] eA n h I :=
  STEP_mkx (c := fun _ => crC s x) (v := fun J => cL J s x) (K := fun J => crK J s x) (X := RD2) E S eA_i (fun J => ic_3 (by decide) (by decide) (by decide)) (fun J E => k113 E)
    (fun h2 I2 L V S => by
      have g := AW_t (x := 0) (AW_r I2)
      have V2 : INV n (tH I2 0) := by rw [aw_INV g]; exact V
      rw [r214 L (WQ_of V) (iv_T V).2.2.1 (iv_O V) (iv_T V).2.1.2.1 (iv_110 V) (iv_T V).2.2.2.2.2.1]
      refine ⟨tH I2 0, ?_⟩
      unfold crC crK
      dsimp only
      by_cases hs : s = 0 ∨ s = 1
      · rw [if_pos hs, ic_t hs]
        by_cases c : 0 ≤ x ∧ x ≤ 1073741823
        · obtain ⟨M2, hM2, g1, _⟩ := cF_r (J := tH I2 0) (s := s) (x := x)
          have gf : ∀ a, a < 101 ∨ 129 < a → cF (tH I2 0) s x a = tH I2 0 a := fun a ha => by rw [g1 a (by omega) (by omega) (by omega) (by omega) (by omega) (by omega) (by omega), hM2, tN_f (by omega), cS_f (by omega) (by omega) (by omega)]
          rw [aq_t c, ic_t c, iP_t ⟨hs, c⟩]
          exact ⟨_, _, g, rfl, by rw [gf 94 (by decide), tH_49], fun _ => rfl, fun a ha => by rw [gf a (by omega), tH_n (by omega)], AW_r _, fun R => INV_x (IVX_cF (IVX_of V2) hs) rfl R, WSc_k (fun a a0 a1 => by rw [gf a (by omega), tH_n (by omega)]) S⟩
        · rw [aq_f c, ic_f c, iP_f (fun q => c q.2)]
          exact ⟨_, _, g, rfl, tH_49, (fun q => absurd q (by decide)), fun a ha => tH_n (by omega), aw_tJ I2 2, fun _ => INV_s V2, WSc_t S⟩
      · rw [if_neg hs, ic_f hs, iP_f (fun q => hs q.1)]
        exact ⟨_, _, g, rfl, tH_49, (fun q => absurd q (by decide)), fun a ha => tH_n (by omega), aw_tJ I2 1, fun _ => INV_s V2, WSc_t S⟩)
end OPS6
