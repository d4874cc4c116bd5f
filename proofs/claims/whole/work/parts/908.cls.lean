/-! ===== the class (38): the other store stays (2) ===== -/
theorem RD_o {J K : Nat → Int → Int} {u : Int} (hu : u = 0 ∨ u = 1) (h30 : 0 ≤ J 104 u ∧ J 104 u ≤ 30) (S : SU J K u) (R : RD J u) : RD K u := by
  have k4 : K 104 u = J 104 u := SU_r S 104 1 rfl (by decide) u (by omega)
  have h5 : ∀ n : Nat, (n : Int) ≤ J 104 u → ∀ k, 0 ≤ k → k < (n : Int) → K 105 (30 * u + k) = J 105 (30 * u + k) ∧ K 106 (30 * u + k) = J 106 (30 * u + k) := fun n hn k k0 k1 => ⟨SU_r S 105 30 rfl (by decide) _ (by omega), SU_r S 106 30 rfl (by decide) _ (by omega)⟩
  have l : ∀ o, 0 ≤ o → o < 120 → ∀ n : Nat, (n : Int) ≤ J 104 u → lv K u o n = lv J u o n := by
    intro o o0 o1 n
    induction n with
    | zero =>
      intro _
      show (if K 102 (120 * u + o) = 0 then (0 : Int) else 1) = if J 102 (120 * u + o) = 0 then 0 else 1
      rw [SU_r S 102 120 rfl (by decide) (120 * u + o) (by omega)]
    | succ n ih =>
      intro hn
      have e := h5 (n + 1) hn n (by omega) (by omega)
      unfold lv
      rw [e.1, e.2, ih (by omega)]
  have hnv : ∀ n : Nat, 0 ≤ nv J u n ∧ nv J u n ≤ n := by
    intro n
    induction n with
    | zero => exact ⟨Int.le_refl _, Int.le_refl _⟩
    | succ n ih =>
      unfold nv
      split <;> omega
  have nb := hnv (J 104 u).toNat
  rw [RD, k4]
  refine ⟨fun o o0 o1 => ?_, fun p p0 p1 => ?_, ?_⟩
  · rw [SU_r S 101 120 rfl (by decide) (120 * u + o) (by omega), l o o0 o1 _ (by omega)]
    exact R.1 o o0 o1
  · rw [SU_r S 109 20 rfl (by decide) p (by omega), pv_c (SU_r S 110 20 rfl (by decide) p (by omega)) _ (h5 _ (by omega))]
    exact R.2.1 p p0 p1
  · rw [nv_c _ (h5 _ (by omega))]
    obtain ⟨c1, c2, c3⟩ := R.2.2
    refine ⟨fun k k0 k1 => ?_, ?_, fun o o0 o1 => ?_⟩
    · rw [SU_r S 120 186 rfl (by decide) _ (by omega), SU_r S 115 6 rfl (by decide) (6 * u + k) (by omega)]
      exact c1 k k0 k1
    · rw [SU_r S 122 31 rfl (by decide) _ (by omega), SU_r S 119 1 rfl (by decide) u (by omega)]
      exact c2
    · rw [SU_r S 121 3720 rfl (by decide) _ (by omega), c3 o o0 o1]
      unfold nC
      rw [SU_r S 116 120 rfl (by decide) (120 * u + o) (by omega), SU_r S 117 120 rfl (by decide) (120 * u + o) (by omega), SU_r S 118 120 rfl (by decide) (120 * u + o) (by omega)]
theorem SC_o {I J K : Nat → Int → Int} {st : Nat} {u : Int} (hu : u = 0 ∨ u = 1) (hl : 0 ≤ J 119 u ∧ J 119 u ≤ 600) (S : SU J K u) (C : SC I J st u) : SC I K st u := by
  have k19 : K 119 u = J 119 u := SU_r S 119 1 rfl (by decide) u (by omega)
  have en : eN K u = eN J u := cN_c 6 (fun k k0 k1 => by rw [SU_r S 129 6 rfl (by decide) (6 * u + k) (by omega)])
  refine ⟨fun o o0 o1 => ?_, fun r r0 r1 => ?_, by rw [en]; exact C.2.2.1, fun e e0 e1 => ?_⟩
  · rw [SU_r S 126 120 rfl (by decide) (120 * u + o) (by omega), SU_r S 127 120 rfl (by decide) (120 * u + o) (by omega)]
    exact C.1 o o0 o1
  · rw [SU_r S 129 6 rfl (by decide) (6 * u + r) (by omega), SU_r S 130 6 rfl (by decide) (6 * u + r) (by omega), SU_r S 131 6 rfl (by decide) (6 * u + r) (by omega)]
    exact C.2.1 r r0 r1
  · rw [k19] at e1
    rw [SU_r S 123 600 rfl (by decide) (600 * u + e) (by omega), SU_r S 124 600 rfl (by decide) (600 * u + e) (by omega), SU_r S 125 600 rfl (by decide) (600 * u + e) (by omega)]
    exact C.2.2.2 e e0 e1
