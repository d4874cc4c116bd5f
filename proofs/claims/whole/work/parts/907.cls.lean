/-! ===== the class (37): the other store stays ===== -/
def wd (a : Nat) : Int :=
  if a = 104 ∨ a = 108 ∨ a = 119 then 1 else if a = 105 ∨ a = 106 ∨ a = 107 then 30 else if a = 109 ∨ a = 110 ∨ a = 111 then 20 else if a = 112 ∨ a = 113 ∨ a = 114 then 2400
  else if a = 115 ∨ a = 129 ∨ a = 130 ∨ a = 131 then 6 else if a = 120 then 186 else if a = 121 then 3720 else if a = 122 then 31 else if a = 123 ∨ a = 124 ∨ a = 125 then 600 else 120
/-- what a store has in the rows is the same -/
def SU (J K : Nat → Int → Int) (u : Int) : Prop := ∀ a, 101 ≤ a → a ≤ 131 → ∀ j, wd a * u ≤ j → j < wd a * u + wd a → K a j = J a j
theorem SU_r {J K : Nat → Int → Int} {u : Int} (S : SU J K u) (a : Nat) (w : Int) (hw : wd a = w) (h1 : 101 ≤ a ∧ a ≤ 131) (j : Int) (h2 : w * u ≤ j ∧ j < w * u + w) : K a j = J a j := by
  subst hw
  exact S a h1.1 h1.2 j h2.1 h2.2
theorem DC_o {h : HP} {I J K : Nat → Int → Int} {d : Nat} {u : Int} (T : WT J) (hu : u = 0 ∨ u = 1) (S : SU J K u) (H : OB J K) (D : DC h I J d u) (hq : ∀ o, 0 ≤ o → o < 100 → 0 ≤ J 101 (120 * u + o) ∧ J 101 (120 * u + o) ≤ 31) : DC h I K d u := by
  have hm := T.2.2.2.1.1 u hu
  have h30 := T.2.2.2.2.2.1 u hu
  have k4 : K 104 u = J 104 u := SU_r S 104 1 rfl (by decide) u (by omega)
  have k8 : K 108 u = J 108 u := SU_r S 108 1 rfl (by decide) u (by omega)
  have k19 : K 119 u = J 119 u := SU_r S 119 1 rfl (by decide) u (by omega)
  have ns : ∀ (a : Nat) (t : Int), 0 ≤ t → t ≤ 30 → NS I J a u t → NS I K a u t := fun a t t0 t1 N =>
    NO_c (fun k k0 k1 => by rw [SU_r S 120 186 rfl (by decide) _ (by omega)]) (SU_r S 122 31 rfl (by decide) _ (by omega)).symm (fun o o0 o1 => by rw [SU_r S 121 3720 rfl (by decide) _ (by omega)]; exact ⟨rfl, rfl, rfl⟩) N
  refine ⟨⟨fun o o0 o1 => ?_, fun p p0 p1 => ?_⟩, ⟨?_, fun p p0 p1 => ?_⟩, ⟨?_, ns _ 0 (Int.le_refl _) (by decide) D.2.2.1.2⟩, ?_, fun k k0 k1 => ?_⟩
  · have q := D.1.1 o o0 o1
    have e1 : K 101 (120 * u + o) = J 101 (120 * u + o) := SU_r S 101 120 rfl (by decide) _ (by omega)
    have e2 : K 102 (120 * u + o) = J 102 (120 * u + o) := SU_r S 102 120 rfl (by decide) _ (by omega)
    have e3 : K 103 (120 * u + o) = J 103 (120 * u + o) := SU_r S 103 120 rfl (by decide) _ (by omega)
    have w := hq o o0 o1
    rw [q.1, q.2]
    unfold lcI kc BL
    rw [e1, e2, e3]
    refine ⟨?_, rfl⟩
    by_cases c : J 101 (120 * u + o) = 0
    · rw [if_pos c, if_pos c]
    · rw [if_neg c, if_neg c]
      by_cases c1 : J 101 (120 * u + o) = 1
      · have e : ∀ x y : Prop, ((J 101 (120 * u + o) = 1 ∧ J 103 (120 * u + o) = 1) ∨ (J 101 (120 * u + o) ≠ 1 ∧ x)) ↔ ((J 101 (120 * u + o) = 1 ∧ J 103 (120 * u + o) = 1) ∨ (J 101 (120 * u + o) ≠ 1 ∧ y)) := fun x y => ⟨fun t => t.elim Or.inl (fun t => absurd c1 t.1), fun t => t.elim Or.inl (fun t => absurd c1 t.1)⟩
        by_cases r : (J 101 (120 * u + o) = 1 ∧ J 103 (120 * u + o) = 1) ∨ (J 101 (120 * u + o) ≠ 1 ∧ J 107 (30 * u + J 101 (120 * u + o) - 2) = 1)
        · rw [if_pos r, if_pos ((e _ _).mp r)]
        · rw [if_neg r, if_neg (fun t => r ((e _ _).mp t))]
      · have e7 : K 107 (30 * u + J 101 (120 * u + o) - 2) = J 107 (30 * u + J 101 (120 * u + o) - 2) := SU_r S 107 30 rfl (by decide) _ (by omega)
        rw [e7]
  · have q := D.1.2 p p0 p1
    rw [SU_r S 109 20 rfl (by decide) (20 * u + p) (by omega), SU_r S 110 20 rfl (by decide) (20 * u + p) (by omega)]
    exact q
  · rw [k8]; exact D.2.1.1
  · rw [k8] at p1
    obtain ⟨a, ha, C⟩ := D.2.1.2 p p0 p1
    refine ⟨a, ha, PC_P T.1 T.2.2.2.1 (by omega) H ⟨SU_r S 111 20 rfl (by decide) _ (by omega), fun k k0 k1 => ⟨SU_r S 112 2400 rfl (by decide) _ (by omega), SU_r S 113 2400 rfl (by decide) _ (by omega), SU_r S 114 2400 rfl (by decide) _ (by omega)⟩⟩ C⟩
  · exact NO_c (fun k k0 k1 => by rw [SU_r S 115 6 rfl (by decide) _ (by omega)]) k19.symm (fun o o0 o1 => by
      rw [SU_r S 118 120 rfl (by decide) (120 * u + o) (by omega), SU_r S 116 120 rfl (by decide) (120 * u + o) (by omega), SU_r S 117 120 rfl (by decide) (120 * u + o) (by omega)]
      exact ⟨rfl, rfl, rfl⟩) D.2.2.1.1
  · rw [k4]; exact D.2.2.2.1
  · rw [k4] at k1
    have q := D.2.2.2.2 k k0 k1
    rw [SU_r S 105 30 rfl (by decide) (30 * u + k) (by omega), SU_r S 106 30 rfl (by decide) (30 * u + k) (by omega), SU_r S 107 30 rfl (by decide) (30 * u + k) (by omega)]
    refine ⟨q.1, q.2.1, q.2.2.1, q.2.2.2.1, fun q4 => ?_⟩
    obtain ⟨a, ha, hNS⟩ := q.2.2.2.2 q4
    exact ⟨a, ha, ns a (k + 1) (by omega) (by omega) hNS⟩
