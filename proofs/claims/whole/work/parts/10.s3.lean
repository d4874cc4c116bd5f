/-! ===== the heap's rows ===== -/
section OKS3
variable {y op b c nx pc len : Nat} {a : Int} {ins : Instr}
theorem zok3_16 (h : zok3 y 16 a b c nx pc ins len = true) : nx = pc + 3 ∧ ∃ i, ins = .getfield i ∧ len = 3 ∧ b < 12 ∧ c < zNF b ∧ ∃ q ∈ zfl, q.1 = zO y ∧ q.2.1 = i ∧ q.2.2.1 = b ∧ q.2.2.2.1 = c := by
  unfold zok3 at h
  simp only [Bool.and_eq_true, decide_eq_true_eq] at h
  obtain ⟨h0, h1⟩ := h
  split at h1 <;> first | omega | (cases h1; done) | skip
  · rename_i i q1
    simp only [Bool.and_eq_true, decide_eq_true_eq] at h1
    obtain ⟨⟨rfl, h2, h3⟩, h4⟩ := h1
    split at h4
    · rename_i q hq
      exact ⟨h0, i, rfl, rfl, h2, h3, q, List.mem_of_getElem? hq, of_decide_eq_true h4⟩
    · cases h4
theorem zok3_17 (h : zok3 y 17 a b c nx pc ins len = true) : nx = pc + 3 ∧ ∃ i, ins = .putfield i ∧ len = 3 ∧ b < 12 ∧ c < zNF b ∧ ((zTT b c).2.2.2 = false ∨ zKd y = 2 ∧ (zTT b c).1 = zcn (zO y)) ∧ ∃ q ∈ zfl, q.1 = zO y ∧ q.2.1 = i ∧ q.2.2.1 = b ∧ q.2.2.2.1 = c := by
  unfold zok3 at h
  simp only [Bool.and_eq_true, decide_eq_true_eq] at h
  obtain ⟨h0, h1⟩ := h
  split at h1 <;> first | omega | (cases h1; done) | skip
  · rename_i i q1
    simp only [Bool.and_eq_true, decide_eq_true_eq] at h1
    obtain ⟨⟨rfl, h2, h3, h5⟩, h4⟩ := h1
    split at h4
    · rename_i q hq
      exact ⟨h0, i, rfl, rfl, h2, h3, h5, q, List.mem_of_getElem? hq, of_decide_eq_true h4⟩
    · cases h4
theorem zok3_19 (h : zok3 y 19 a b c nx pc ins len = true) : nx = pc + 3 ∧ ∃ i, ins = .new i ∧ len = 3 ∧ b < 12 ∧ ∃ q ∈ znw, q.1 = zO y ∧ q.2.1 = i ∧ q.2.2.1 = b := by
  unfold zok3 at h
  simp only [Bool.and_eq_true, decide_eq_true_eq] at h
  obtain ⟨h0, h1⟩ := h
  split at h1 <;> first | omega | (cases h1; done) | skip
  · rename_i i q1
    simp only [Bool.and_eq_true, decide_eq_true_eq] at h1
    obtain ⟨⟨rfl, h2⟩, h4⟩ := h1
    split at h4
    · rename_i q hq
      exact ⟨h0, i, rfl, rfl, h2, q, List.mem_of_getElem? hq, of_decide_eq_true h4⟩
    · cases h4
theorem zok3_20 (h : zok3 y 20 a b c nx pc ins len = true) : nx = pc + 2 ∧ ∃ i, ins = .newarray i ∧ len = 2 ∧ b < 3 ∧ zat i = b := by
  unfold zok3 at h
  simp only [Bool.and_eq_true, decide_eq_true_eq] at h
  obtain ⟨h0, h1⟩ := h
  split at h1 <;> first | (rename_i q1 q2; exact absurd q1 (by decide)) | (simp at h1 <;> simp_all)
theorem zok3_21 (h : zok3 y 21 a b c nx pc ins len = true) : nx = pc + 3 ∧ ∃ i, ins = .anewarray i ∧ len = 3 ∧ (b = 3 ∨ b = 4) ∧ ∃ q ∈ zan, q.1 = zO y ∧ q.2.1 = i ∧ q.2.2.1 = b := by
  unfold zok3 at h
  simp only [Bool.and_eq_true, decide_eq_true_eq] at h
  obtain ⟨h0, h1⟩ := h
  split at h1 <;> first | omega | (cases h1; done) | skip
  · rename_i i q1
    simp only [Bool.and_eq_true, decide_eq_true_eq] at h1
    obtain ⟨⟨rfl, h2⟩, h4⟩ := h1
    split at h4
    · rename_i q hq
      exact ⟨h0, i, rfl, rfl, h2, q, List.mem_of_getElem? hq, of_decide_eq_true h4⟩
    · cases h4
theorem zok3_22 (h : zok3 y 22 a b c nx pc ins len = true) : nx = pc + 1 ∧ ins = .arraylength ∧ len = 1 := by
  unfold zok3 at h
  simp only [Bool.and_eq_true, decide_eq_true_eq] at h
  obtain ⟨h0, h1⟩ := h
  split at h1 <;> first | (rename_i q1 q2; exact absurd q1 (by decide)) | (simp at h1 <;> simp_all)
theorem zok3_23 (h : zok3 y 23 a b c nx pc ins len = true) : nx = pc + 1 ∧ len = 1 ∧ (ins = .iaload ∧ b = 0 ∨ ins = .baload ∧ b = 1 ∨ ins = .laload ∧ b = 2) := by
  unfold zok3 at h
  simp only [Bool.and_eq_true, decide_eq_true_eq] at h
  obtain ⟨h0, h1⟩ := h
  split at h1 <;> first | (rename_i q1 q2; exact absurd q1 (by decide)) | (simp at h1 <;> simp_all)
theorem zok3_24 (h : zok3 y 24 a b c nx pc ins len = true) : nx = pc + 1 ∧ len = 1 ∧ (ins = .iastore ∧ b = 0 ∨ ins = .bastore ∧ b = 1 ∨ ins = .lastore ∧ b = 2) := by
  unfold zok3 at h
  simp only [Bool.and_eq_true, decide_eq_true_eq] at h
  obtain ⟨h0, h1⟩ := h
  split at h1 <;> first | (rename_i q1 q2; exact absurd q1 (by decide)) | (simp at h1 <;> simp_all)
theorem zok3_25 (h : zok3 y 25 a b c nx pc ins len = true) : nx = pc + 1 ∧ ins = .aaload ∧ len = 1 := by
  unfold zok3 at h
  simp only [Bool.and_eq_true, decide_eq_true_eq] at h
  obtain ⟨h0, h1⟩ := h
  split at h1 <;> first | (rename_i q1 q2; exact absurd q1 (by decide)) | (simp at h1 <;> simp_all)
theorem zok3_26 (h : zok3 y 26 a b c nx pc ins len = true) : nx = pc + 1 ∧ ins = .aastore ∧ len = 1 := by
  unfold zok3 at h
  simp only [Bool.and_eq_true, decide_eq_true_eq] at h
  obtain ⟨h0, h1⟩ := h
  split at h1 <;> first | (rename_i q1 q2; exact absurd q1 (by decide)) | (simp at h1 <;> simp_all)
end OKS3
theorem zfl_ok : ∀ q ∈ zfl, Jvm.Cond.fieldLink (zcn q.1) q.2.1 (zTT q.2.2.1 q.2.2.2.1).1 (zTT q.2.2.1 q.2.2.2.1).2.1 (zTT q.2.2.1 q.2.2.2.1).2.2.1 ∈ zFW := by
  have h : (zfl.all fun q => zw q.2.2.2.2 (.fieldLink (zcn q.1) q.2.1 (zTT q.2.2.1 q.2.2.2.1).1 (zTT q.2.2.1 q.2.2.2.1).2.1 (zTT q.2.2.1 q.2.2.2.1).2.2.1)) = true := by decide +kernel
  intro q hq
  have h1 := List.all_eq_true.mp h q hq
  exact zFW_of (of_decide_eq_true h1) rfl
theorem znw_ok : ∀ q ∈ znw, Jvm.Cond.classLink (zcn q.1) q.2.1 (zcn q.2.2.1) ∈ zFW ∧ Jvm.Cond.instantiable (zcn q.2.2.1) (zNF q.2.2.1) ∈ zFW ∧ Jvm.Cond.initialized (zcn q.2.2.1) ∈ zFW := by
  have h : (znw.all fun q => zw q.2.2.2.1 (.classLink (zcn q.1) q.2.1 (zcn q.2.2.1)) && (zw q.2.2.2.2.1 (.instantiable (zcn q.2.2.1) (zNF q.2.2.1)) && zw q.2.2.2.2.2 (.initialized (zcn q.2.2.1)))) = true := by decide +kernel
  intro q hq
  have h1 := List.all_eq_true.mp h q hq
  simp only [Bool.and_eq_true] at h1
  exact ⟨zFW_of (of_decide_eq_true h1.1) rfl, zFW_of (of_decide_eq_true h1.2.1) rfl, zFW_of (of_decide_eq_true h1.2.2) rfl⟩
def zaC (t : Nat) : String := if t = 3 then "PackSpring$Pack" else "PackSpring$Notes"
theorem zan_ok : ∀ q ∈ zan, Jvm.Cond.classLink (zcn q.1) q.2.1 (zaC q.2.2.1) ∈ zFW ∧ Jvm.Cond.arrayOver (.object (zaC q.2.2.1)) ∈ zFW := by
  have h : (zan.all fun q => zw q.2.2.2.1 (.classLink (zcn q.1) q.2.1 (zaC q.2.2.1)) && zw q.2.2.2.2 (.arrayOver (.object (zaC q.2.2.1)))) = true := by decide +kernel
  intro q hq
  have h1 := List.all_eq_true.mp h q hq
  simp only [Bool.and_eq_true] at h1
  exact ⟨zFW_of (of_decide_eq_true h1.1) rfl, zFW_of (of_decide_eq_true h1.2) rfl⟩
def zaT (t : Nat) : FieldType := match t with
  | 0 => .int
  | 1 => .boolean
  | 2 => .long
  | 3 => .object "PackSpring$Pack"
  | _ => .object "PackSpring$Notes"
theorem zac_ok : ∀ t, t < 3 → Jvm.Cond.arrayClass (zaT t) ∈ zFW := by
  intro t ht
  have h : ∀ t, t < 3 → lw_tbl[zac.getD t 0]? = some (.arrayClass (zaT t)) := by decide +kernel
  exact zFW_of (h t ht) rfl
theorem zcl_at : ∀ ci, ci < 12 → zCl[ci]? = some (zcn ci, zTT ci, zNF ci) := by
  intro ci hc
  rcases (show ci = 0 ∨ ci = 1 ∨ ci = 2 ∨ ci = 3 ∨ ci = 4 ∨ ci = 5 ∨ ci = 6 ∨ ci = 7 ∨ ci = 8 ∨ ci = 9 ∨ ci = 10 ∨ ci = 11 by omega) with rfl | rfl | rfl | rfl | rfl | rfl | rfl | rfl | rfl | rfl | rfl | rfl <;> rfl
theorem zty_ok : ∀ ci, ci < 12 → ∀ k, k < zNF ci → parseFieldDescriptor (zTT ci k).2.2.1 = some (zFt ci k) := by
  intro ci hc
  rcases (show ci = 0 ∨ ci = 1 ∨ ci = 2 ∨ ci = 3 ∨ ci = 4 ∨ ci = 5 ∨ ci = 6 ∨ ci = 7 ∨ ci = 8 ∨ ci = 9 ∨ ci = 10 ∨ ci = 11 by omega) with rfl | rfl | rfl | rfl | rfl | rfl | rfl | rfl | rfl | rfl | rfl | rfl
  · exact tyX0_ok
  · exact tyX1_ok
  · exact tyX2_ok
  · exact tyX3_ok
  · exact tyX4_ok
  · exact tyX5_ok
  · exact tyX6_ok
  · exact tyX7_ok
  · exact tyX8_ok
  · exact tyX9_ok
  · exact tyX10_ok
  · exact tyX11_ok
theorem znm_ok : ∀ ci, ci < 12 → ∀ a, a < zNF ci → ∀ b, b < zNF ci → a ≠ b → (zTT ci a).2.1 ≠ (zTT ci b).2.1 := by
  intro ci hc
  rcases (show ci = 0 ∨ ci = 1 ∨ ci = 2 ∨ ci = 3 ∨ ci = 4 ∨ ci = 5 ∨ ci = 6 ∨ ci = 7 ∨ ci = 8 ∨ ci = 9 ∨ ci = 10 ∨ ci = 11 by omega) with rfl | rfl | rfl | rfl | rfl | rfl | rfl | rfl | rfl | rfl | rfl | rfl
  · exact nmX0
  · exact nmX1
  · exact nmX2
  · exact nmX3
  · exact nmX4
  · exact nmX5
  · exact nmX6
  · exact nmX7
  · exact nmX8
  · exact nmX9
  · exact nmX10
  · exact nmX11
def zRt (t : FieldType) : Bool := match t with
  | .object _ => true
  | .array _ => true
  | _ => false
theorem zsh_ok : ∀ ci, ci < 12 → ∀ k, k < zNF ci → (zSh ci k = 0 → zFt ci k = .int) ∧ (zSh ci k = 1 → zFt ci k = .boolean) ∧ (zSh ci k = 2 → zRt (zFt ci k) = true) ∧ zSh ci k ≤ 2 := by
  decide +kernel
theorem zlay_1 : ((List.range 12).all fun ci => ((List.range (zNF ci)).all fun k => zw ((zlp.getD ci []).getD k 0) (u_lay (zcn ci) (zTT ci) k) && zgM (u_lay (zcn ci) (zTT ci) k))) = true := by decide +kernel
theorem zlay_ok : ∀ ci, ci < 12 → ∀ w ∈ u_ws (zcn ci) (zTT ci) (zNF ci), w ∈ zFW := by
  intro ci hc w hw
  obtain ⟨k, hk, rfl⟩ := List.mem_map.mp hw
  have h1 := List.all_eq_true.mp (List.all_eq_true.mp zlay_1 ci (List.mem_range.mpr hc)) k hk
  simp only [Bool.and_eq_true] at h1
  exact zFW_of (of_decide_eq_true h1.1) h1.2
theorem va_RA_inj {U : State} {c1 c2 : ClassId} {ty : FieldType} (h1 : va_RA U c1 ty) (h2 : va_RA U c2 ty) : c1 = c2 := by
  cases ty with
  | object C =>
    obtain ⟨_, _, -, -, -, e1⟩ := h1
    obtain ⟨_, _, -, -, -, e2⟩ := h2
    exact Option.some.inj (e1.symm.trans e2)
  | _ => exact Option.some.inj (Eq.trans (Eq.symm h1) h2)
theorem va_S.tr {A : Nat → Prop} {H0 H H1 : Heap} {l1 l2 : List Loc} (h : va_S A H0 H l1) (h1 : va_S A H H1 l2) : va_S A H0 H1 l2 :=
  ⟨Nat.le_trans h.1 h1.1, fun q hq hA => (h1.2.1 q (Nat.lt_of_lt_of_le hq h.1) hA).trans (h.2.1 q hq hA), h1.2.2⟩
theorem va_S.here {A : Nat → Prop} {H0 H : Heap} {l1 : List Loc} (h : va_S A H0 H l1) : va_S A H H l1 := ⟨Nat.le_refl _, fun _ _ _ => rfl, h.2.2⟩
theorem ixI {j len : Int} (h0 : 0 ≤ j) (h1 : j < len) (h2 : len < 2147483648) : vp_in (Int32.ofInt j) len.toNat ∧ (Int32.ofInt j).toNatClampNeg = j.toNat := by
  obtain ⟨n, rfl⟩ := Int.eq_ofNat_of_zero_le h0
  have hn : n < 2 ^ 31 := by omega
  have e : Int32.ofInt (n : Int) = nI n := rfl
  rw [e]
  exact ⟨vp_in_nI (by omega) (by omega), by rw [nI_clamp hn]; omega⟩
def HV (D : va_G) (cA : Nat → ClassId) (B0 : Nat) (al : Nat → Nat) (h : HP) (s : State) (H : Heap) (locs : List Loc) : Prop := RH D cA (zA B0) al h H ∧ SX al h B0 s H ∧ va_S (zA B0) s.heap H locs
/-- a store into a regular object: the rest of the picture -/
theorem HV.put {D : va_G} {cA : Nat → ClassId} {B0 : Nat} {al : Nat → Nat} {h h1 : HP} {s : State} {H H1 : Heap} {locs locs1 : List Loc} {i q0 : Nat} (V : HV D cA B0 al h s H locs) (hq : (iL h)[q0]? = some i) (hk : hK h1 = hK h) (hn : hN h1 = hN h) (hi : ∀ j, j ≠ i → hI h1 j = hI h j) (hr : ∀ j, j ≠ i → hR h1 j = hR h j) (ho : oH h1)
    (hP : va_P D zCl ((iW cA al h).set q0 (al i, iE cA al h1 i)) H1) (hD : va_D (zA B0) ((iW cA al h).set q0 (al i, iE cA al h1 i))) (hS : va_S (zA B0) H H1 locs1) : HV D cA B0 al h1 s H1 locs1 := by
  obtain ⟨⟨p1, d1, o1⟩, x1, s1⟩ := V
  have hset := iW_set (cA := cA) (al := al) hq hk hn (fun j hj => iE_ext Ext.rf (by rw [hk]) (hi j hj) (hr j hj) o1)
  rw [hset] at hP hD
  refine ⟨⟨hP, hD, ho⟩, fun j hj ht => ?_, s1.tr hS⟩
  rw [hn] at hj
  rw [hk] at ht ⊢
  obtain ⟨a1, a2, a3, a4⟩ := x1 j hj ht
  have hne : j ≠ i := by
    intro e
    subst e
    have := (iL_mem.mp (List.mem_of_getElem? hq)).2
    rw [ht] at this
    exact absurd this (by decide)
  rw [hi j hne]
  exact ⟨a1.kept (hS.2.1 _ a2 (by show ¬ B0 ≤ al j; omega)), Nat.lt_of_lt_of_le a2 hS.1, a3, a4⟩
/-- an object more -/
theorem HV.push {D : va_G} {cA : Nat → ClassId} {B0 : Nat} {al : Nat → Nat} {h : HP} {s : State} {H H1 : Heap} {locs locs1 : List Loc} {t s0 q : Nat} {len : Int} (V : HV D cA B0 al h s H locs) (ht : reg t = true) (hl : t ≤ 4 → 0 ≤ len ∧ len ≤ 10000)
    (hP : va_P D zCl (iW cA al h ++ [(q, iE cA (zup al (hN h) q) (hNew h t len s0) (hN h))]) H1) (hD : va_D (zA B0) (iW cA al h ++ [(q, iE cA (zup al (hN h) q) (hNew h t len s0) (hN h))])) (hS : va_S (zA B0) H H1 locs1) :
    Ext (hN h) al (zup al (hN h) q) ∧ HV D cA B0 (zup al (hN h) q) (hNew h t len s0) s H1 locs1 := by
  obtain ⟨⟨p1, d1, o1⟩, x1, s1⟩ := V
  have hx : Ext (hN h) al (zup al (hN h) q) := fun i hi => by simp [zup, Nat.ne_of_lt hi]
  rw [← iW_push o1 ht] at hP hD
  refine ⟨hx, ⟨hP, hD, ?_⟩, fun j hj h6 => ?_, s1.tr hS⟩
  · refine ⟨fun i k => ?_, fun i k r hr => ?_, fun i hi => ?_⟩
    · show rgI (zup h.2.2.1 h.1.1 (fun _ => 0) i k)
      unfold zup
      split
      · exact rg0
      · exact o1.1 i k
    · have hr : zup h.2.2.2 h.1.1 (fun _ => none) i k = some r := hr
      unfold zup at hr
      split at hr
      · cases hr
      · exact Nat.lt_succ_of_lt (o1.2.1 i k r hr)
    · have hi : (zup h.2.1 h.1.1 (t, len) i).1 ≤ 4 := hi
      show 0 ≤ (zup h.2.1 h.1.1 (t, len) i).2 ∧ (zup h.2.1 h.1.1 (t, len) i).2 ≤ 10000
      unfold zup at hi ⊢
      split at hi
      · rename_i e; rw [if_pos e]; exact hl hi
      · rename_i e; rw [if_neg e]; exact o1.2.2 i hi
  · have h6 : (zup h.2.1 h.1.1 (t, len) j).1 = 6 := h6
    have hne : j ≠ h.1.1 := by
      intro e
      rw [e] at h6
      simp only [zup, if_true] at h6
      rw [h6] at ht
      exact absurd ht (by decide)
    have hj : j < h.1.1 + 1 := hj
    have hj2 : j < hN h := by show j < h.1.1; omega
    have f1 : hK (hNew h t len s0) j = hK h j := by show zup h.2.1 h.1.1 (t, len) j = h.2.1 j; simp [zup, hne]
    have f2 : hI (hNew h t len s0) j = hI h j := by show zup h.2.2.1 h.1.1 _ j = h.2.2.1 j; simp [zup, hne]
    have h6' : (hK h j).1 = 6 := by rw [← f1]; exact h6
    obtain ⟨a1, a2, a3, a4⟩ := x1 j hj2 h6'
    rw [f1, f2, hx j hj2]
    exact ⟨a1.kept (hS.2.1 _ a2 (by show ¬ B0 ≤ al j; omega)), Nat.lt_of_lt_of_le a2 hS.1, a3, a4⟩
theorem HV.opq {D : va_G} {cA : Nat → ClassId} {B0 : Nat} {al : Nat → Nat} {h : HP} {s : State} {H : Heap} {locs : List Loc} {q : Nat} (V : HV D cA B0 al h s H locs) : Ext (hN h) al (zup al (hN h) q) ∧ HV D cA B0 (zup al (hN h) q) (hOpq h) s H locs := by
  obtain ⟨⟨p1, d1, o1⟩, x1, s1⟩ := V
  have hx : Ext (hN h) al (zup al (hN h) q) := fun i hi => by simp [zup, Nat.ne_of_lt hi]
  rw [← iW_opq (q := q) o1] at p1 d1
  refine ⟨hx, ⟨p1, d1, ?_⟩, fun j hj h6 => ?_, s1⟩
  · refine ⟨o1.1, fun i k r hr => Nat.lt_succ_of_lt (o1.2.1 i k r hr), fun i hi => ?_⟩
    have hi : (zup h.2.1 h.1.1 (5, 0) i).1 ≤ 4 := hi
    show 0 ≤ (zup h.2.1 h.1.1 (5, 0) i).2 ∧ (zup h.2.1 h.1.1 (5, 0) i).2 ≤ 10000
    unfold zup at hi ⊢
    split at hi
    · simp at hi
    · rename_i e; rw [if_neg e]; exact o1.2.2 i hi
  · have h6 : (zup h.2.1 h.1.1 (5, 0) j).1 = 6 := h6
    have hne : j ≠ h.1.1 := by
      intro e
      rw [e] at h6
      simp [zup] at h6
    have hj : j < h.1.1 + 1 := hj
    have hj2 : j < hN h := by show j < h.1.1; omega
    have f1 : hK (hOpq h) j = hK h j := by show zup h.2.1 h.1.1 (5, 0) j = h.2.1 j; simp [zup, hne]
    have h6' : (hK h j).1 = 6 := by rw [← f1]; exact h6
    obtain ⟨a1, a2, a3, a4⟩ := x1 j hj2 h6'
    rw [f1, hx j hj2]
    exact ⟨a1, a2, a3, a4⟩
