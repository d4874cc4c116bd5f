/-! ===== the small machine's heap and the real one's ===== -/
def iV (al : Nat → Nat) : MV → Value
  | .inl x => .int (Int32.ofInt x)
  | .inr (.inl none) => .null
  | .inr (.inl (some i)) => .ref (al i)
  | .inr (.inr x) => .long (Int64.ofInt x)
def oV (n : Nat) : MV → Prop
  | .inl x => rgI x
  | .inr (.inl none) => True
  | .inr (.inl (some i)) => i < n
  | .inr (.inr x) => rgI x
def iF (al : Nat → Nat) (h : HP) (ci i k : Nat) : Value := if zSh ci k = 2 then iV al (.inr (.inl (hR h i k))) else .int (Int32.ofInt (hI h i k))
def iE (cA : Nat → ClassId) (al : Nat → Nat) (h : HP) (i : Nat) : va_E :=
  if (hK h i).1 ≤ 1 then .inl (cA (hK h i).1, (hK h i).2.toNat, .inl (fun k => Int32.ofInt (hI h i k)))
  else if (hK h i).1 = 2 then .inl (cA 2, (hK h i).2.toNat, .inr (.inl (fun k => Int64.ofInt (hI h i k))))
  else if (hK h i).1 ≤ 4 then .inl (cA (hK h i).1, (hK h i).2.toNat, .inr (.inr (.inr (.inr (fun k => (hR h i k).map al)))))
  else .inr ((hK h i).1 - 10, (List.range (zNF ((hK h i).1 - 10))).map (iF al h ((hK h i).1 - 10) i))
def reg (t : Nat) : Bool := decide (t ≤ 4 ∨ 10 ≤ t)
def iL (h : HP) : List Nat := (List.range (hN h)).filter (fun i => reg (hK h i).1)
def iW (cA : Nat → ClassId) (al : Nat → Nat) (h : HP) : va_W := (iL h).map fun i => (al i, iE cA al h i)
def oH (h : HP) : Prop := (∀ i k, rgI (hI h i k)) ∧ (∀ i k r, hR h i k = some r → r < hN h) ∧ (∀ i, (hK h i).1 ≤ 4 → 0 ≤ (hK h i).2 ∧ (hK h i).2 ≤ 10000)
def RH (D : va_G) (cA : Nat → ClassId) (A : Nat → Prop) (al : Nat → Nat) (h : HP) (H : Heap) : Prop := va_P D zCl (iW cA al h) H ∧ va_D A (iW cA al h) ∧ oH h
def zTys (cA : Nat → ClassId) : List (ClassId × FieldType) := [(cA 0, .int), (cA 1, .boolean), (cA 2, .long), (cA 3, .object "PackSpring$Pack"), (cA 4, .object "PackSpring$Notes")]
def Ext (n : Nat) (al al1 : Nat → Nat) : Prop := ∀ i, i < n → al1 i = al i
theorem Ext.rf {n : Nat} {al : Nat → Nat} : Ext n al al := fun _ _ => rfl
theorem Ext.tr {n n1 : Nat} {al al1 al2 : Nat → Nat} (h : Ext n al al1) (h1 : Ext n1 al1 al2) (hn : n ≤ n1) : Ext n al al2 := fun i hi => (h1 i (by omega)).trans (h i hi)
theorem iV_ext {n : Nat} {al al1 : Nat → Nat} (h : Ext n al al1) {v : MV} (hv : oV n v) : iV al1 v = iV al v := by
  rcases v with x | ⟨_ | i⟩ | x
  · rfl
  · rfl
  · exact congrArg Value.ref (h i hv)
  · rfl
theorem oV_mono {n n1 : Nat} (hn : n ≤ n1) {v : MV} (hv : oV n v) : oV n1 v := by
  rcases v with x | ⟨_ | i⟩ | x
  · exact hv
  · exact hv
  · exact Nat.lt_of_lt_of_le hv hn
  · exact hv
theorem iL_mem {h : HP} {i : Nat} : i ∈ iL h ↔ i < hN h ∧ reg (hK h i).1 = true := by
  simp [iL]
theorem iL_nodup (h : HP) : (iL h).Nodup := List.nodup_range.filter _
theorem iW_at {cA : Nat → ClassId} {al : Nat → Nat} {h : HP} {i : Nat} (hi : i < hN h) (hr : reg (hK h i).1 = true) : ∃ q0 : Nat, (iL h)[q0]? = some i ∧ (iW cA al h)[q0]? = some (al i, iE cA al h i) := by
  obtain ⟨q0, hq⟩ := List.getElem?_of_mem (iL_mem.mpr ⟨hi, hr⟩)
  exact ⟨q0, hq, by simp [iW, hq]⟩
theorem iW_set {cA : Nat → ClassId} {al : Nat → Nat} {h h1 : HP} {i q0 : Nat} (hq : (iL h)[q0]? = some i) (hk : hK h1 = hK h) (hn : hN h1 = hN h) (ho : ∀ j, j ≠ i → iE cA al h1 j = iE cA al h j) : (iW cA al h).set q0 (al i, iE cA al h1 i) = iW cA al h1 := by
  have hL : iL h1 = iL h := by simp [iL, hk, hn]
  have hlt := (List.getElem?_eq_some_iff.mp hq).1
  unfold iW
  rw [hL]
  apply List.ext_getElem?
  intro k
  rw [List.getElem?_set]
  by_cases hk0 : q0 = k
  · subst hk0
    have hv := (List.getElem?_eq_some_iff.mp hq).2
    simp [hlt, hv]
  · rw [if_neg hk0, List.getElem?_map, List.getElem?_map]
    cases hx : (iL h)[k]? with
    | none => rfl
    | some j =>
      have hj : j ≠ i := by
        intro e
        subst e
        have hlk := (List.getElem?_eq_some_iff.mp hx).1
        have h1 := (List.getElem?_eq_some_iff.mp hq).2
        have h2 := (List.getElem?_eq_some_iff.mp hx).2
        exact hk0 ((List.getElem_inj (iL_nodup h)).mp (h1.trans h2.symm))
      simp [ho j hj]
theorem iE_ext {cA : Nat → ClassId} {al al1 : Nat → Nat} {h h1 : HP} {i : Nat} (ha : Ext (hN h) al al1) (hk : hK h1 i = hK h i) (hi : hI h1 i = hI h i) (hr : hR h1 i = hR h i) (ho : oH h) : iE cA al1 h1 i = iE cA al h i := by
  have e1 : (fun k : Nat => (hR h1 i k).map al1) = fun k : Nat => (hR h i k).map al := by
    funext k
    rw [hr]
    cases hx : hR h i k with
    | none => rfl
    | some r => exact congrArg some (ha r (ho.2.1 i k r hx))
  have e2 : ∀ ci, (fun k => iF al1 h1 ci i k) = fun k => iF al h ci i k := by
    intro ci
    funext k
    unfold iF
    rw [hr, hi]
    cases hx : hR h i k with
    | none => rfl
    | some r => simp only [iV, ha r (ho.2.1 i k r hx)]
  unfold iE
  rw [hk, hi, e1]
  have e3 := e2 ((hK h i).1 - 10)
  simp only [show (iF al1 h1 ((hK h i).1 - 10) i) = iF al h ((hK h i).1 - 10) i from e3]
theorem iW_push {cA : Nat → ClassId} {al : Nat → Nat} {h : HP} {t : Nat} {len : Int} {s q : Nat} (ho : oH h) (ht : reg t = true) : iW cA (zup al (hN h) q) (hNew h t len s) = iW cA al h ++ [(q, iE cA (zup al (hN h) q) (hNew h t len s) (hN h))] := by
  have hx : Ext (hN h) al (zup al (hN h) q) := fun i hi => by simp [zup, Nat.ne_of_lt hi]
  have hL : iL (hNew h t len s) = iL h ++ [hN h] := by
    have e1 : hN (hNew h t len s) = hN h + 1 := rfl
    have e2 : (List.range (hN h)).filter (fun i => reg (hK (hNew h t len s) i).1) = (List.range (hN h)).filter (fun i => reg (hK h i).1) := by
      apply List.filter_congr
      intro i hi
      have : i ≠ hN h := Nat.ne_of_lt (List.mem_range.mp hi)
      have e3 : hK (hNew h t len s) i = hK h i := by show zup h.2.1 h.1.1 (t, len) i = h.2.1 i; simp [zup]; intro e; exact absurd e this
      rw [e3]
    have e4 : hK (hNew h t len s) (hN h) = (t, len) := by show zup h.2.1 h.1.1 (t, len) h.1.1 = _; simp [zup]
    unfold iL
    rw [e1, List.range_succ, List.filter_append, e2]
    simp [e4, ht]
  unfold iW
  rw [hL, List.map_append]
  congr 1
  · apply List.map_congr_left
    intro i hi
    obtain ⟨hlt, -⟩ := iL_mem.mp hi
    have hne : i ≠ hN h := Nat.ne_of_lt hlt
    have f1 : hK (hNew h t len s) i = hK h i := by show zup h.2.1 h.1.1 (t, len) i = h.2.1 i; simp [zup]; intro e; exact absurd e hne
    have f2 : hI (hNew h t len s) i = hI h i := by show zup h.2.2.1 h.1.1 _ i = h.2.2.1 i; simp [zup]; intro e; exact absurd e hne
    have f3 : hR (hNew h t len s) i = hR h i := by show zup h.2.2.2 h.1.1 _ i = h.2.2.2 i; simp [zup]; intro e; exact absurd e hne
    rw [iE_ext hx f1 f2 f3 ho, hx i hlt]
  · simp [zup]
theorem iW_opq {cA : Nat → ClassId} {al : Nat → Nat} {h : HP} {q : Nat} (ho : oH h) : iW cA (zup al (hN h) q) (hOpq h) = iW cA al h := by
  have hx : Ext (hN h) al (zup al (hN h) q) := fun i hi => by simp [zup, Nat.ne_of_lt hi]
  have hL : iL (hOpq h) = iL h := by
    have e1 : hN (hOpq h) = hN h + 1 := rfl
    have e2 : (List.range (hN h)).filter (fun i => reg (hK (hOpq h) i).1) = (List.range (hN h)).filter (fun i => reg (hK h i).1) := by
      apply List.filter_congr
      intro i hi
      have : i ≠ hN h := Nat.ne_of_lt (List.mem_range.mp hi)
      have e3 : hK (hOpq h) i = hK h i := by show zup h.2.1 h.1.1 (5, 0) i = h.2.1 i; simp [zup]; intro e; exact absurd e this
      rw [e3]
    have e4 : hK (hOpq h) (hN h) = (5, 0) := by show zup h.2.1 h.1.1 (5, 0) h.1.1 = _; simp [zup]
    unfold iL
    rw [e1, List.range_succ, List.filter_append, e2]
    simp [e4, reg]
  unfold iW
  rw [hL]
  apply List.map_congr_left
  intro i hi
  obtain ⟨hlt, -⟩ := iL_mem.mp hi
  have hne : i ≠ hN h := Nat.ne_of_lt hlt
  have f1 : hK (hOpq h) i = hK h i := by show zup h.2.1 h.1.1 (5, 0) i = h.2.1 i; simp [zup]; intro e; exact absurd e hne
  rw [iE_ext hx f1 rfl rfl ho, hx i hlt]
