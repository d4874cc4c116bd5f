/-! ===== the calls (24): a new object ===== -/
section OPS18
variable {n m : Int} {h h1 : HP} {I I1 J K M D : Nat → Int → Int}
/-- what the draft names is of the right kind -/
def VB (J : Nat → Int → Int) (c : Int) : Prop := ∀ j, 0 ≤ j → j < J 94 5 → (c = 1 → j % 2 = 1 → J 95 (fnd J (J 99 j)) < 2) ∧ (c = 2 → j = 0 → J 95 (fnd J (J 99 j)) = 1) ∧ (c = 2 → 2 ≤ j → J 95 (fnd J (J 99 j)) = 2) ∧ (c = 3 → J 95 (fnd J (J 99 j)) = 2)
theorem max_lt (ρ : Int → Int) : ∀ k : Nat, ∃ M, ∀ c, 0 ≤ c → c < (k : Int) → ρ c < M
  | 0 => ⟨0, fun c c0 c1 => by omega⟩
  | k + 1 => by
    obtain ⟨M, hM⟩ := max_lt ρ k
    by_cases q : M ≤ ρ k
    · refine ⟨ρ k + 1, fun c c0 c1 => ?_⟩
      by_cases e : c = k
      · rw [e]; omega
      · have := hM c c0 (by omega)
        omega
    · refine ⟨M, fun c c0 c1 => ?_⟩
      by_cases e : c = k
      · rw [e]; omega
      · exact hM c c0 (by omega)
theorem nB_o {c o : Int} (ho : o < J 94 0) : nB J c 95 o = J 95 o ∧ nB J c 96 o = J 96 o ∧ nB J c 98 o = J 98 o := by
  rw [nB_95, nB_96, nB_98]
  exact ⟨up1_ne (by omega), up1_ne (by omega), up1_ne (by omega)⟩
theorem Vs_nB {c a : Int} (hc : Vs J a) : Vs (nB J c) a := by
  refine ⟨⟨hc.1.1, by rw [nB_940]; have := hc.1.2; omega⟩, ?_⟩
  rw [(nB_o hc.1.2).1]
  exact hc.2
theorem at_nB {c o j : Int} (R : RB J) (N : NB J c) (ht : J 94 0 < 100) (ho : Vs J o) (j0 : 2 ≤ j) (j1 : j < J 96 o) : atR (nB J c) o j = atR J o j := atR_nB R N ht ho.1.1 ho.1.2 (Lk_p ho.2 j0 j1)
theorem NtOK_nB {c : Int} {r b f : Int → Int} (R : RB J) (V1 : WV1 J) (N : NB J c) (B : VB J c) (ht : J 94 0 < 100) (H : NtOK J r b f) : NtOK (nB J c) r b f := by
  obtain ⟨h1, h2, h3, ρ, h4⟩ := H
  have hT := R.1.1
  refine ⟨fun k k0 k1 => ?_, fun o o0 o1 => ?_, fun o o0 o1 q => Vs_nB (h3 o o0 o1 q), ?_⟩
  · obtain ⟨q1, q2⟩ := h1 k k0 k1
    rw [nB_940]
    refine ⟨by omega, fun q => ?_⟩
    rw [(nB_o (by omega)).1]
    exact q2 q
  · obtain ⟨q1, q2⟩ := h2 o o0 o1
    rw [nB_940]
    refine ⟨by omega, fun q => ⟨Vs_nB (q2 q).1, ?_⟩⟩
    rw [(nB_o (by omega)).1]
    exact (q2 q).2
  · obtain ⟨M, hM⟩ := max_lt ρ (J 94 0).toNat
    refine ⟨fun a => if a = J 94 0 then M else ρ a, fun a x va sx => ?_⟩
    have va1 := va.1
    rw [nB_940] at va1
    by_cases e : a = J 94 0
    · -- the new one
      have b0 : b a = 0 := Classical.byContradiction fun q => by
        have := (h2 a va1.1 (by omega)).2 q
        have := this.1.1.2
        omega
      have k2 : c = 2 := by
        have := va.2
        rw [e, nB_95, up1_eq] at this
        exact this
      have es : sbv b a = J 94 0 := by
        unfold sbv
        rw [if_pos b0, e]
      rw [es] at sx
      obtain ⟨j, j0, j1, ex⟩ := sx
      rw [nB_96, up1_eq] at j1
      have hf := N.2.2.2.2 j (by omega) j1 (Or.inr (Or.inl ⟨k2, by omega⟩))
      rw [atR_nBn R N ht ⟨by omega, j1⟩ hf] at ex
      have fl := fnd_lt (I := J) (x := J 99 j) hT.1
      dsimp only
      rw [if_pos e, if_neg (by omega)]
      exact hM x (by omega) (by omega)
    · have vj : Vs J a := ⟨⟨va1.1, by omega⟩, by rw [← (nB_o (c := c) (J := J) (o := a) (by omega)).1]; exact va.2⟩
      have vs : Vs J (sbv b a) := by
        unfold sbv
        split
        · exact vj
        · next q =>
          have := h2 a va1.1 (by omega)
          exact ⟨by have := this.1; omega, (this.2 q).2⟩
      obtain ⟨j, j0, j1, ex⟩ := sx
      rw [(nB_o vs.1.2).2.1] at j1
      rw [at_nB R N ht vs j0 j1] at ex
      have lt := (R.1.2 _ vs.1.1 vs.1.2).2 j (Lk_p vs.2 j0 j1)
      dsimp only
      rw [if_neg e, if_neg (by have := vs.1.2; omega)]
      exact h4 a x vj ⟨j, j0, j1, ex⟩
theorem INV_nB {c : Int} (V : INV n J) (N : NB J c) (B : VB J c) (hs : sm J c < 0) (ht : J 94 0 < 100) : INV n (nB J c) := by
  have R := iv_R V
  have T := iv_T V
  have hT := iv_t V
  have f : ∀ a, a < 94 ∨ 98 < a → nB J c a = J a := fun a ha => nB_f ha
  have g : ∀ k, k ≠ 0 → nB J c 94 k = J 94 k := fun k hk => nB_94 hk
  have RN := RB_nB R N ht
  have g0 : nB J c 94 0 = J 94 0 + 1 := nB_940
  refine ⟨⟨RN, WU_nB R (iv_U V) N hs, ?_⟩, ⟨RN.1, c_WL (fun a ha => f a (by omega)) T.2.1, ?_, ?_, ?_, ?_, RN.2.2⟩, ⟨by rw [f 110 (by decide)]; exact iv_110 V, by rw [f 116 (by decide)]; exact iv_116 V, by rw [f 117 (by decide)]; exact iv_117 V, by rw [f 127 (by decide)]; exact iv_127 V⟩, ⟨?_, ?_, ?_, c_WO (fun a ha => f a (by omega)) (iv_O2 V)⟩, ⟨c_PM (fun a ha => f a (by omega)) (iv_M V), c_PD (fun a ha => f a (by omega)) (iv_P V), ?_, ?_⟩, ⟨by rw [f 126 (by decide)]; exact iv_126 V, ?_⟩, ?_, by rw [g 9 (by decide)]; exact iv_9 V, by rw [g 41 (by decide)]; exact iv_41 V, by rw [g 8 (by decide)]; exact iv_8 V, fun s hs2 => ?_⟩
  · unfold WD
    rw [g 5 (by decide), f 99 (by decide)]
    exact iv_D V
  · unfold WN
    rw [f 118 (by decide)]
    exact T.2.2.1
  · have w := T.2.2.2.1
    unfold WK at w ⊢
    rw [f 108 (by decide), f 111 (by decide), f 112 (by decide), f 113 (by decide), g0]
    exact ⟨w.1, fun p p0 p1 => ⟨(w.2 p p0 p1).1, fun k k0 k1 => by have := (w.2 p p0 p1).2 k k0 k1; omega⟩⟩
  · rw [f 109 (by decide)]; exact T.2.2.2.2.1
  · rw [f 104 (by decide)]; exact T.2.2.2.2.2.1
  · have w := iv_E2 V
    unfold WE2 WE at w ⊢
    rw [f 129 (by decide), f 131 (by decide), g0]
    refine ⟨⟨w.1.1, fun k k0 k1 => by have := w.1.2 k k0 k1; omega⟩, fun k k0 k1 q => ?_⟩
    have := w.1.2 k k0 k1
    rw [(nB_o (by omega)).1]
    exact w.2 k k0 k1 q
  · have w := iv_G V
    unfold WG at w ⊢
    rw [f 119 (by decide), f 123 (by decide), f 124 (by decide), f 125 (by decide), f 126 (by decide), g0, g 8 (by decide)]
    exact ⟨fun s k hs k0 k1 => by have := w.1 s k hs k0 k1; omega, w.2⟩
  · have w := iv_Q2 V
    unfold WQ2 WQc at w ⊢
    rw [f 104 (by decide), f 105 (by decide), f 106 (by decide), f 108 (by decide), g0]
    exact ⟨w.1, fun s k hs k0 k1 => ⟨fun q => by have := (w.2 s k hs k0 k1).1 q; omega, (w.2 s k hs k0 k1).2⟩⟩
  · have w := iv_Z V
    unfold ZO at w ⊢
    rw [f 101 (by decide), f 102 (by decide), g0]
    exact fun s o hs o0 o1 => w s o hs (by omega) o1
  · have w := iv_Z7 V
    unfold ZP7 at w ⊢
    rw [f 127 (by decide), g0]
    exact fun s o hs o0 o1 => w s o hs (by omega) o1
  · have w := iv_V1 V
    intro o o0 o1 j l
    rw [g0] at o1
    by_cases e : o = J 94 0
    · subst e
      have l2 : (0 ≤ j ∧ j < J 94 5) ∧ ((c = 1 ∧ j % 2 = 1) ∨ (c = 2 ∧ j ≠ 1) ∨ (c = 3 ∧ j = 0)) := by
        unfold Lk at l
        rw [nB_95, nB_96, up1_eq, up1_eq] at l
        exact ⟨⟨l.1, l.2.1⟩, l.2.2⟩
      have hn := N.2.2.2.2 j l2.1.1 l2.1.2 l2.2
      have fl := fnd_lt (I := J) (x := J 99 j) hT.1
      rw [atR_nBn R N ht l2.1 hn, (nB_o fl.2.1).1, show nB J c 95 (J 94 0) = c by rw [nB_95, up1_eq]]
      have b := B j l2.1.1 l2.1.2
      exact ⟨fun q => b.1 q (by have := l2.2; omega), b.2.1, b.2.2.1, b.2.2.2⟩
    · have o2 : o < J 94 0 := by omega
      have l2 := (Lk_nB o2).mp l
      have lt := (R.1.2 o o0 o2).2 j l2
      rw [atR_nB R N ht o0 o2 l2, (nB_o o2).1, (nB_o (by omega)).1]
      exact w o o0 o2 j l2
  · have is : ∀ s, s = 0 ∨ s = 1 → INVs (nB J c) s := fun s hs2 => by
      obtain ⟨q1, q2, q3, q4⟩ := iv_s V hs2
      refine ⟨RD_c (J := J) (fun a ha => f a (by omega)) q1, ?_, ?_, fun t ht2 => ?_⟩
      · unfold NL at q2 ⊢
        rw [f 104 (by decide), f 105 (by decide), f 119 (by decide), f 122 (by decide)]
        exact q2
      · unfold NtC at q3 ⊢
        rw [f 115 (by decide), f 116 (by decide), f 118 (by decide)]
        exact NtOK_nB R (iv_V1 V) N B ht q3
      · have hu : SlU J s t := by
          unfold SlU at ht2 ⊢
          rw [f 104 (by decide), f 105 (by decide)] at ht2
          exact ht2
        have w := q4 t hu
        unfold SlN at w ⊢
        rw [f 120 (by decide), f 121 (by decide)]
        exact NtOK_nB R (iv_V1 V) N B ht w
    exact ⟨is 0 (Or.inl rfl), is 1 (Or.inr rfl)⟩
  · have e : eN (nB J c) s = eN J s := by unfold eN; rw [f 129 (by decide)]
    rw [e, f 119 (by decide)]
    exact iv_l V hs2
theorem Eg_nB {c s a b : Int} (R : RB J) (N : NB J c) (ht : J 94 0 < 100) (ha : 0 ≤ a ∧ a < J 94 0) : Eg J s a b ↔ Eg (nB J c) s a b := by
  unfold Eg
  rw [(nB_o ha.2).1, nB_f (a := 116) (by decide)]
  constructor
  · rintro ⟨j, l, q, e⟩
    exact ⟨j, (Lk_nB ha.2).mpr l, q, by rw [atR_nB R N ht ha.1 ha.2 l]; exact e⟩
  · rintro ⟨j, l, q, e⟩
    have l2 := (Lk_nB ha.2).mp l
    exact ⟨j, l2, q, by rw [← atR_nB R N ht ha.1 ha.2 l2]; exact e⟩
/-- what couples the class stays, when an object is told -/
theorem CC_nB {c s : Int} {k : Nat} (R : RB J) (N : NB J c) (ht : J 94 0 < 100) (C : CC I J k s) : CC I (nB J c) k s := by
  have hT := R.1.1
  obtain ⟨c1, c2, c3, c4⟩ := C
  have f8 : nB J c 128 = J 128 := nB_f (by decide)
  have ech : chN (nB J c) s = chN J s := by unfold chN; rw [f8]
  refine ⟨by rw [ech]; exact c1, fun i i0 i1 => ?_, fun o o0 o1 q => ?_, fun i j i0 i1 j0 j1 => ?_⟩
  · have q := c2 i i0 i1
    rw [nB_940, f8]
    exact ⟨by omega, q.2⟩
  · rw [f8] at q
    exact c3 o o0 o1 q
  · have q := (c2 i i0 i1).1
    rw [c4 i j i0 i1 j0 j1]
    exact b01_c (Cl_cg (P := fun a => 0 ≤ a ∧ a < J 94 0) (fun j e => by rw [e]; exact q) (fun a b ha e => by have := Eg_lt R.1 ha e; omega) (fun a b ha => Eg_nB R N ht ha) j)
end OPS18
