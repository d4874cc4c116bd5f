/-! ===== a method's contract out of a run ===== -/
def FT (l : Launch) (D : va_G) (cA : Nat → ClassId) (B0 n : Nat) : Prop := ∀ (y ip : Nat) (ls st : List MV) (h hf : HP) (o : OUT), ex n y ip ls st h = some (hf, o) → y < 316 →
  ∀ (p : Program) (e : Env) (R : Room) (s : State) (m : MethodId) (args : Array Value) (below : List Frame) (meth : Method) (c : Code) (H : Heap) (locs : List Loc) (Q : State → Prop) (al al0 : Nat → Nat) (lm : Array Slot) (n0 c0 s0 : Nat),
    CX p s m meth c y → BF D cA B0 s → (R.frames = zFr y ∧ R.locals = zLo y) → HV D cA B0 al h s H locs → FL al (hN h) ls lm (zL y) → (∀ w ∈ st, oV (hN h) w) → Ext n0 al0 al → n0 ≤ hN h → c0 ≤ h.1.2.1 → s0 ≤ h.1.2.2 → hf.1.2.1 - c0 ≤ R.cells → hf.1.2.2 - s0 ≤ R.slots →
    (∀ r, o = .inl r → ENDR p l e R s m args below meth c Q D cA B0 n0 c0 s0 al0 y hf r) → (∀ x, o = .inr x → ENDX p l e R s m args below meth c Q D cA B0 n0 c0 s0 al0 y hf x) →
    W p l e R s m args below meth c H locs (h.1.2.1 - c0) (h.1.2.2 - s0) Q (F0 m (zPc y ip) lm (st.map (iV al)))
def zOK : Prop := (∀ y, y < 316 → ∀ ip, zokI y ip = true) ∧ (∀ y, y < 315 → zokM y = true)
theorem zokM_get {y : Nat} (h : zokM y = true) : ((zY y).cls = zcn (zO y) ∧ plainName (zY y).cls = true ∧ (zY y).cls ≠ "java/lang/invoke/MethodHandle" ∧ (zY y).cls ≠ "java/lang/invoke/VarHandle" ∧ zPc y 0 = 0 ∧ zNa y ≤ zL y ∧ (zKd y = 1 ∨ 1 ≤ zNa y) ∧ zKd y ≤ 2) ∧
    (parseMethodDescriptor (zY y).desc).map (fun d => d.parameters.length) = some (zNa y - if zKd y = 1 then 0 else 1) ∧ (∀ w ∈ zWs y, w ∈ zFW) ∧ Jvm.Cond.initialized (zY y).cls ∈ zFW ∧
    (zKd y = 0 → Jvm.Cond.instanceMethod (zY y) ∈ zFW ∧ Jvm.Cond.selects (zY y).cls (zY y) (zY y) ∈ zFW) ∧ (zKd y = 1 → Jvm.Cond.static (zY y) ∈ zFW) ∧ (zKd y = 2 → Jvm.Cond.instanceMethod (zY y) ∈ zFW ∧ (zY y).name = "<init>" ∧ zR y = none) := by
  unfold zokM at h
  simp only [Bool.and_eq_true, decide_eq_true_eq] at h
  obtain ⟨⟨⟨⟨⟨h1, h2⟩, h3⟩, h4⟩, h5⟩, h6⟩ := h
  refine ⟨h1, h2, ?_, zFW_of (of_decide_eq_true h4) rfl, ?_, ?_, ?_⟩
  · intro w hw
    have hw : w = _ := List.mem_singleton.mp hw
    subst hw
    cases hz : zH y with
    | nil => rw [hz] at h3; exact zFW_of (of_decide_eq_true h3) rfl
    | cons a r => rw [hz] at h3; exact zFW_of (of_decide_eq_true h3) rfl
  · intro hk
    rw [hk] at h5
    simp only [Bool.and_eq_true] at h5
    exact ⟨zFW_of (of_decide_eq_true h5.1) rfl, zFW_of (of_decide_eq_true h5.2) rfl⟩
  · intro hk
    rw [hk] at h5
    exact zFW_of (of_decide_eq_true h5) rfl
  · intro hk
    rw [hk] at h5
    simp only [Bool.and_eq_true, decide_eq_true_eq] at h5
    exact ⟨zFW_of (of_decide_eq_true h5.1.1) rfl, h5.1.2, h5.2⟩
theorem zok4_30 {y b c pc len : Nat} {ins : Instr} (h : zok4 y 30 b c pc ins len = true) : ins = .ireturn ∧ len = 1 ∧ (zRs y = 0 ∧ zR y = some .int ∨ zRs y = 1 ∧ zR y = some .boolean) := by
  unfold zok4 at h
  split at h <;> first | (rename_i q1 q2; exact absurd q1 (by decide)) | simp_all
theorem zok4_39 {y b c pc len : Nat} {ins : Instr} (h : zok4 y 39 b c pc ins len = true) : ins = .areturn ∧ len = 1 ∧ ∃ C, zR y = some (.object C) := by
  unfold zok4 at h
  split at h <;> first | (rename_i q1 q2; exact absurd q1 (by decide)) | simp_all
  all_goals (split at h <;> simp_all)
theorem zok4_31 {y b c pc len : Nat} {ins : Instr} (h : zok4 y 31 b c pc ins len = true) : ins = .return_ ∧ len = 1 ∧ zR y = none := by
  unfold zok4 at h
  split at h <;> first | (rename_i q1 q2; exact absurd q1 (by decide)) | simp_all
theorem zok4_32 {y b c pc len : Nat} {ins : Instr} (h : zok4 y 32 b c pc ins len = true) : ∃ ik is ic wd tx p1 p2 p3, zth[c]? = some (zO y, ik, is, ic, b, wd, tx, p1, p2, p3) ∧ ins = .new ik ∧ zH y = [] ∧ 6 ≤ zFr y ∧ 90 ≤ zLo y ∧ decode (zB y) pc = .ok (.new ik, 3) ∧ decode (zB y) (pc + 3) = .ok (.dup, 1) ∧
    ((decode (zB y) (pc + 4) = .ok (.ldc is, 2) ∧ decode (zB y) (pc + 6) = .ok (.invokespecial ic, 3) ∧ decode (zB y) (pc + 9) = .ok (.athrow, 1)) ∨ (decode (zB y) (pc + 4) = .ok (.ldc_w is, 3) ∧ decode (zB y) (pc + 7) = .ok (.invokespecial ic, 3) ∧ decode (zB y) (pc + 10) = .ok (.athrow, 1))) := by
  unfold zok4 at h
  split at h
  · omega
  · omega
  · omega
  · rename_i ik q1
    split at h
    · cases h
    · rename_i o ik2 is ic e wd tx p1 p2 p3 hq
      simp only [Bool.and_eq_true, decide_eq_true_eq] at h
      obtain ⟨⟨rfl, rfl, rfl, h3, h4, h5, h6, h7⟩, h8⟩ := h
      refine ⟨_, is, ic, wd, tx, p1, p2, p3, hq, rfl, h3, h4, h5, h6, h7, ?_⟩
      split at h8
      · exact Or.inl (of_decide_eq_true h8)
      · exact Or.inr (of_decide_eq_true h8)
  · cases h
def zNm : List String := ["java/lang/RuntimeException", "java/lang/Exception"]
theorem zth_1 : (zth.all fun q => zw q.2.2.2.2.2.2.2.1 (.classLink (zcn q.1) q.2.1 (zen q.2.2.2.2.1)) && (zw q.2.2.2.2.2.2.2.2.1 (.initialized (zen q.2.2.2.2.1)) && Bundle.fit (zen q.2.2.2.2.1))) = true := by decide +kernel
theorem zth_2 : ((List.range 38).all fun i => match zth[i]? with
    | none => false
    | some q => ((zth.take i).any fun r => decide (r.1 = q.1 ∧ r.2.2.2.1 = q.2.2.2.1 ∧ r.2.2.2.2.1 = q.2.2.2.2.1)) || ((vx_atS (zcn q.1) q.2.2.2.1 (zen q.2.2.2.2.1) zNm).all fun w => zFW.contains w && vx_ot w)) = true := by decide +kernel
