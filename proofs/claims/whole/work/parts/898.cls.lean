/-! ===== the class (28): a write; a fall ===== -/
theorem DC_J {h : HP} {I J K : Nat → Int → Int} {d : Nat} {s : Int} (T : WT J) (hs : s = 0 ∨ s = 1) (H : ∀ a, (101 ≤ a ∧ a ≤ 122) ∨ a = 96 ∨ a = 97 → K a = J a) (D : DC h I J d s) : DC h I K d s := by
  have q := DC_n.mp D
  have d1 := DNk_J (K := K) T hs (fun a ha => H a (by omega)) q.1
  refine DC_n.mpr ⟨?_, ?_⟩
  · unfold DN
    rw [H 104 (by omega)]
    have d2 := d1
    unfold DNk at d2
    rw [H 104 (by omega)] at d2
    exact d2
  · unfold NC
    rw [H 115 (by omega), H 116 (by omega), H 117 (by omega), H 118 (by omega), H 119 (by omega)]
    exact q.2
theorem DC_I {h : HP} {I K J : Nat → Int → Int} {d : Nat} {s : Int} (W : OWN h) (hd : d = 11 ∨ d = 43) (H : ∀ c, (d ≤ c ∧ c ≤ d + 19) ∨ 140 ≤ c → K c = I c) (D : DC h I J d s) : DC h K J d s := by
  have q := DC_n.mp D
  refine DC_n.mpr ⟨DNk_I W hd (fun c hc => H c (by omega)) q.1, ?_⟩
  unfold NC
  rw [NO_I (I := I) (n := d + 6) (fun c c0 c1 => H c (by omega))]
  exact q.2
theorem k79 {h : HP} {I J : Nat → Int → Int} {st : Nat} {s o : Int} (hst : st = 10 ∨ st = 42) (L : LX 8 h st) (L3 : LX 3 h (st + 1)) (L4 : LX 4 h (st + 12)) (W : OWN h) (D : DC h I J (st + 1) s) (S : SC I J st s) (Q : WQc J) (T : WT J) (Z : ZO J) (R : RD J s) (M : PM J) (P : PDs J) (hs : s = 0 ∨ s = 1) (ho : 0 ≤ o ∧ o < 100) (ht : 0 ≤ J 94 8) :
    ∃ I1, Go 79 0 [.inr (.inl (some st)), .inl o, .inl (J 94 8)] [] (mI h I) = some (mI h I1, .inl none) ∧ DC h I1 (wW J s o) (st + 1) s ∧ RD (wW J s o) s ∧ SC I1 (wW J s o) st s ∧ ∀ c, c < st ∨ st + 31 < c ∨ (st + 21 ≤ c ∧ c ≤ st + 23) → I1 c = I c := by
  obtain ⟨E, hE⟩ : ∃ E, E = zu2 I (st + 24) o (J 94 8) := ⟨_, rfl⟩
  obtain ⟨X, hX⟩ : ∃ X, X = wR J s o := ⟨_, rfl⟩
  have Ef : ∀ c, c ≠ st + 24 → E c = I c := fun c hc => by rw [hE, zu2_row, rowU_ne hc]
  have Xf : ∀ c, c ≠ 126 → X c = J c := fun c hc => by rw [hX]; exact rowU_ne hc
  have DE : DC h E X (st + 1) s := DC_J T hs (fun a ha => Xf a (by omega)) (DC_I W (by omega) (fun c hc => Ef c (by omega)) D)
  have SE : SC E X st s := by
    refine ⟨fun y y0 y1 => ⟨?_, ?_⟩, fun r r0 r1 => ?_, ?_, fun e e0 e1 => ?_⟩
    · rw [hE, zu2_row, rowU_eq]
      have x6 : X 126 = up1 (J 126) (120 * s + o) (J 94 8) := by rw [hX]; exact rowU_eq
      rw [x6]
      by_cases q : y = o
      · subst q; rw [up1_eq, up1_eq, if_neg (by omega)]
      · rw [up1_ne q, up1_ne (by omega)]
        exact (S.1 y y0 y1).1
    · rw [Ef _ (by omega), Xf 127 (by decide)]
      exact (S.1 y y0 y1).2
    · rw [Ef _ (by omega), Ef _ (by omega), Ef _ (by omega), Xf 129 (by decide), Xf 130 (by decide), Xf 131 (by decide)]
      exact S.2.1 r r0 r1
    · unfold eN
      rw [Ef _ (by omega), Xf 129 (by decide)]
      exact S.2.2.1
    · rw [Xf 119 (by decide)] at e1
      rw [Ef _ (by omega), Ef _ (by omega), Ef _ (by omega), Xf 123 (by decide), Xf 124 (by decide), Xf 125 (by decide)]
      exact S.2.2.2 e e0 e1
  have TX : WT X := by rw [hX]; exact WT_126 T
  have KX := TX.2.2.2.1
  have MX : PM X := by unfold PM; rw [Xf 108 (by decide), Xf 109 (by decide), Xf 110 (by decide)]; exact M
  have PX : PDs X := by unfold PDs PD; rw [Xf 108 (by decide), Xf 111 (by decide), Xf 112 (by decide)]; exact P
  have QX : WQc X := by unfold WQc; rw [Xf 104 (by decide), Xf 105 (by decide), Xf 106 (by decide)]; exact Q
  have ZX : ZO X := by unfold ZO; rw [Xf 94 (by decide), Xf 101 (by decide), Xf 102 (by decide)]; exact Z
  have RX : RD X s := RD_c (J := J) (fun c hc => Xf c (by omega)) R
  have gd : Gd X s o ↔ Gd J s o := by rw [hX]; unfold wR; rw [Gd_U (by decide)]
  have hd : st + 1 = 11 ∨ st + 1 = 43 := by omega
  rw [b79_0 L ho L3, ← hE, k38 L3 DE MX KX PX TX.2.1 hs ho, caln_r, b79_9]
  unfold wW
  by_cases q : Gd J s o
  · rw [b01_t (gd.mpr q), if_pos neg1_ne, b79_14, if_pos q, ← hX]
    exact ⟨E, rfl, DE, RX, SE, fun c hc => Ef c (by omega)⟩
  · rw [b01_f (fun r => q (gd.mp r)), if_neg (fun r => r rfl), b79_10 L L3, if_neg q, ← hX]
    obtain ⟨I1, e1, D1, R1, f1⟩ := k41 (h := h) (I := E) (J := X) (d := st + 1) (s := s) (o := o) hd L3 L4 W (DC_n.mp DE).1 QX TX ZX RX hs ho
    have wf : ∀ c, c < 101 ∨ (107 < c ∧ c < 110) ∨ (110 < c ∧ c < 120) ∨ 122 < c → wLo X s o c = X c := fun c hc => by
      unfold wLo
      rw [rowU_ne (by omega), dO_f hc]
    have NE := (DC_n.mp DE).2
    refine ⟨I1, by rw [e1, caln_v, b79_14], DC_n.mpr ⟨D1, ?_⟩, R1, ?_, fun c hc => by rw [f1 c (by omega), Ef c (by omega)]⟩
    · show NC I1 (wLo X s o) (st + 1 + 6) s
      unfold NC
      rw [wf 115 (by decide), wf 116 (by decide), wf 117 (by decide), wf 118 (by decide), wf 119 (by decide), NO_I (I := E) (n := st + 1 + 6) (fun c c0 c1 => f1 c (by omega))]
      exact NE
    · show SC I1 (wLo X s o) st s
      rw [SC_J (J := X) (fun c hc => wf c (by omega)), SC_I (I := E) (fun c hc => f1 c (by omega))]
      exact SE
/-- kept notes have no longer logs -/
def NL (J : Nat → Int → Int) (s : Int) : Prop := J 122 (31 * s) ≤ J 119 s ∧ ∀ k, 0 ≤ k → k < J 104 s → J 105 (30 * s + k) = 4 → J 122 (31 * s + (k + 1)) ≤ J 119 s
theorem k80 {h : HP} {I J : Nat → Int → Int} {st : Nat} {s x : Int} {v2 : MV} (hst : st = 10 ∨ st = 42) (L : LX 8 h st) (L1 : LX 1 h (st + 21)) (L3 : LX 3 h (st + 1)) (L4 : LX 4 h (st + 12)) (Ln : LX 4 h (st + 7)) (W : OWN h) (D : DC h I J (st + 1) s) (S : SC I J st s) (Q : WQc J) (T : WT J) (O : WO J) (h6 : ∀ j, J 116 j = 0 ∨ J 116 j = 1) (h7 : ∀ j, J 117 j = 0 ∨ J 117 j = 1) (h110 : ∀ j, J 110 j = 0 ∨ J 110 j = 1) (hl : NL J s) (hs : s = 0 ∨ s = 1) (hx : 0 ≤ x) :
    ∃ I1, Go 80 0 [.inr (.inl (some st)), .inl x, v2] [] (mI h I) = some (mI h I1, .inl (some (.inl (cL J s x)))) ∧ DC h I1 (cF J s x) (st + 1) s ∧ RD (cF J s x) s ∧ SC I1 (cF J s x) st s ∧ CC I1 (cF J s x) (st + 21) s ∧ ∀ c, c < st ∨ st + 31 < c → I1 c = I c := by
  have hd : st + 1 = 11 ∨ st + 1 = 43 := by omega
  have h30 := T.2.2.2.2.2.1 s hs
  have key := lpE (fun k (y : Nat → Int → Int) => Go 80 2 [.inr (.inl (some st)), .inl x, .inl k] [] (mI h y)) (fun k y => (∀ c, c ≠ st + 25 → y c = I c) ∧ ∀ r, 0 ≤ r → r < k → y (st + 25) r = 0) 0 100 (by decide) ?_ I ⟨fun _ _ => rfl, fun r _ _ => by omega⟩
  · obtain ⟨A, e1, a1, a2⟩ := key
    obtain ⟨B, e2, b1, b2, b3, b4⟩ := k81 (h := h) (I := zu2 A (st + 21) 2 0) (st := st) (v1 := vU) L
    have Bf : ∀ c, c ≠ st + 25 → c ≠ st + 21 → c ≠ st + 26 → c ≠ st → B c = I c := fun c c0 c1 c2 c3 => by rw [b1 c c2 c3, zu2_row, rowU_ne c1, a1 c c0]
    have DB : DN h B J (st + 1) s := (DC_n.mp (DC_I W hd (fun c hc => Bf c (by omega) (by omega) (by omega) (by omega)) D)).1
    obtain ⟨I1, e3, D3, R3, f3⟩ := k50 (h := h) (I := B) (J := J) (d := st + 1) (s := s) (x := x) (v2 := vU) (v3 := vU) (v4 := vU) hd L3 L4 Ln W DB Q T O h6 h7 h110 hs hx
    have cf : ∀ c, 123 ≤ c → c ≤ 131 → c ≠ 127 → c ≠ 128 → c ≠ 129 → cF J s x c = J c := fun c c0 c1 c2 c3 c4 => by
      unfold cF cE cR
      rw [rowU_ne (by omega), rowU_ne c4, rowU_ne (by omega), rowU_ne c3, rowU_ne c2, rowU_ne (by omega), kN_f (by omega) (by omega) (by omega), tN_f (by omega), cS_f (by omega) (by omega) (by omega)]
    have j127 : ∀ o, 0 ≤ o → o < 120 → cF J s x 127 (120 * s + o) = 0 := fun o o0 o1 => by
      unfold cF cE cR
      rw [rowU_ne (by decide), rowU_ne (by decide), rowU_ne (by decide), rowU_ne (by decide), rowU_eq, fillR_in (by omega)]
    have j128 : ∀ o, 0 ≤ o → o < 120 → cF J s x 128 (120 * s + o) = 0 := fun o o0 o1 => by
      unfold cF cE cR
      rw [rowU_ne (by decide), rowU_ne (by decide), rowU_ne (by decide), rowU_eq, fillR_in (by omega)]
    have j129 : ∀ r, 0 ≤ r → r < 6 → cF J s x 129 (6 * s + r) = 0 := fun r r0 r1 => by
      unfold cF cE
      rw [rowU_ne (by decide), rowU_eq, fillR_in (by omega)]
    have j119 : cF J s x 119 s ≤ J 119 s := by
      have e : cF J s x 119 s = J 122 (31 * s + (cS J s x (J 104 s).toNat).2.1) := by
        unfold cF cE cR
        rw [rowU_ne (by decide), rowU_ne (by decide), rowU_ne (by decide), rowU_ne (by decide), rowU_ne (by decide), rowU_ne (by decide), kN_f (by decide) (by decide) (by decide), tN_r.2.1, cS_f (by decide) (by decide) (by decide)]
      rw [e]
      obtain q | q := cS_n (J := J) (s := s) (x := x) (J 104 s).toNat
      · rw [q, Int.add_zero]
        exact hl.1
      · have := hl.2 ((cS J s x (J 104 s).toNat).2.1 - 1) (by omega) (by omega) q.2.2
        rw [show (cS J s x (J 104 s).toNat).2.1 - 1 + 1 = (cS J s x (J 104 s).toNat).2.1 by omega] at this
        exact this
    refine ⟨I1, ?_, D3, R3, ⟨fun o o0 o1 => ⟨?_, ?_⟩, fun r r0 r1 => ⟨?_, fun q => absurd (j129 r r0 r1) q⟩, ?_, fun e e0 e1 => ?_⟩, ⟨⟨?_, ?_⟩, ?_, ?_, ?_⟩, fun c hc => ?_⟩
    · rw [b80_0, e1, b80_2, if_pos (by decide), b80_12 L L1, e2, caln_v, b80_18 L L3, e3, caln_r, b80_22]
    · rw [f3 _ (by omega), Bf _ (by omega) (by omega) (by omega) (by omega), cf 126 (by decide) (by decide) (by decide) (by decide) (by decide)]
      exact (S.1 o o0 o1).1
    · rw [f3 _ (by omega), b1 _ (by omega) (by omega), zu2_row, rowU_ne (by omega), a2 o o0 o1, j127 o o0 (by omega)]
    · rw [f3 _ (by omega), b4 r r0 r1, j129 r r0 r1]
    · rw [f3 _ (by omega), b3, eN_0 j129]
    · have s4 := S.2.2.2 e e0 (by omega)
      rw [f3 _ (by omega), f3 _ (by omega), f3 _ (by omega), Bf _ (by omega) (by omega) (by omega) (by omega), Bf _ (by omega) (by omega) (by omega) (by omega), Bf _ (by omega) (by omega) (by omega) (by omega), cf 123 (by decide) (by decide) (by decide) (by decide) (by decide), cf 124 (by decide) (by decide) (by decide) (by decide) (by decide), cf 125 (by decide) (by decide) (by decide) (by decide) (by decide)]
      exact s4
    all_goals have c2 : I1 (st + 21) 2 = 0 := by rw [f3 _ (by omega), b1 _ (by omega) (by omega), zu2_row, rowU_eq, up1_eq]
    · rw [c2]
      unfold chN
      exact (cN_0 120 (fun k a b q => q (j128 k a (by omega)))).symm
    · rw [c2]; decide
    · intro k k0 k1
      rw [c2] at k1
      omega
    · intro o o0 o1 q
      exact absurd (j128 o o0 o1) q
    · intro k j k0 k1 _ _
      rw [c2] at k1
      omega
    · rw [f3 c (by omega), Bf c (by omega) (by omega) (by omega) (by omega)]
  · intro k y k0 k1 ⟨hy, hr⟩
    refine ⟨zu2 y (st + 25) k 0, by rw [b80_2, if_neg (by omega), b80_5 L (by omega) (by omega)], fun c hc => by rw [zu2_row, rowU_ne hc, hy c hc], fun r r0 r1 => ?_⟩
    rw [zu2_row, rowU_eq]
    by_cases q : r = k
    · subst q; rw [up1_eq]
    · rw [up1_ne q, hr r r0 (by omega)]
