theorem zWs_one (z : Nat) : (zH z = [] ∧ zWs z = [.code (zY z) (zB z) (zL z) (zR z)]) ∨ (zH z ≠ [] ∧ zWs z = [.codeWith (zY z) (zB z) (zL z) (zR z) (zH z)]) := by
  unfold zWs
  cases h : zH z with
  | nil => exact Or.inl ⟨rfl, rfl⟩
  | cons a r => exact Or.inr ⟨by simp, rfl⟩
/-- a method's contract, out of a run of the small machine with as its words -/
theorem met_of {l : Launch} (hl : l.stackTraces = false) {D : va_G} {cA : Nat → ClassId} {B0 n : Nat} (OK : zOK) (F : FT l D cA B0 n) {z : Nat} (hz : z < 315) {h h1 : HP} {o : OUT} {al : Nat → Nat} {as : List MV} (hsm : as.all zsm = true) (hlen : as.length ≤ zL z) (he : ex n z 0 (zpad z as) [] h = some (h1, o)) :
    vx_Met l (zY z) (zWs z) (zRm z (h1.1.2.1 - h.1.2.1) (h1.1.2.2 - h.1.2.2)) (ZP D cA B0 al h as) (ZQ D cA B0 al h h1 o) (ZX D cA B0 al h h1 o) (h1.1.2.1 - h.1.2.1) (h1.1.2.2 - h.1.2.2) (zA B0) := by
  obtain ⟨k1, k2, k3, k4, k5, k6, k7⟩ := zokM_get (OK.2 z hz)
  have body : ∀ (p : Program) (e : Env) (s : State) (m : MethodId) (args : Array Value) (below : List Frame) (meth : Method) (c : Code), CX p s m meth c z → ZP D cA B0 al h as args s →
      W p l e (zRm z (h1.1.2.1 - h.1.2.1) (h1.1.2.2 - h.1.2.2)) s m args below meth c s.heap [] 0 0 (vx_MQ below (ZQ D cA B0 al h h1 o) (ZX D cA B0 al h h1 o) args s (h1.1.2.1 - h.1.2.1) (h1.1.2.2 - h.1.2.2) (zA B0)) (entryFrame m args (zL z)) := by
    intro p e s m args below meth c C hP
    obtain ⟨rfl, hbf, hRH, hSX, hoas⟩ := hP
    obtain ⟨lm, hFL, hent⟩ := FL_entry (z := z) hsm hoas hlen
    rw [hent]
    obtain ⟨e1, e2⟩ := end_met hl OK hz (h := h) (h1 := h1) (o := o) (al := al) (e := e) (below := below) (args := (as.map (iV al)).toArray) rfl rfl C hbf hbf.2.2.2.2.2.2
    have K := F z 0 (zpad z as) [] h h1 o he (by omega) p e (zRm z (h1.1.2.1 - h.1.2.1) (h1.1.2.2 - h.1.2.2)) s m (as.map (iV al)).toArray below meth c s.heap [] _ al al lm (hN h) h.1.2.1 h.1.2.2 C hbf ⟨rfl, rfl⟩ ⟨hRH, hSX, va_S.rf⟩ hFL (fun w hw => by cases hw) Ext.rf (Nat.le_refl _) (Nat.le_refl _) (Nat.le_refl _) (Nat.le_refl _) (Nat.le_refl _) e1 e2
    rw [Nat.sub_self, Nat.sub_self, k1.2.2.2.2.1] at K
    exact K
  rcases zWs_one z with ⟨hH, hW⟩ | ⟨hH, hW⟩
  · rw [hW]
    refine vx_ofW (ws' := []) (cc := zB z) (maxL := zL z) (ret := zR z) k1.2.1 rfl ?_
    intro p e s m args below meth c s₁ B hml ht hP
    refine body p e s m args below meth c ⟨B.exec, B.bytes, hml, ?_, B.returns, B.notSynchronized, fun hk => ?_, ?_⟩ hP
    · rw [← k1.1]; exact findClass_of_methodNamed B.named
    · exact (name_of_methodNamed B.named B.method).1.trans (k7 hk).2.1
    · intro _
      rw [hH]
      show _ = []
      cases hx : c.exceptionTable.toList with
      | nil => rfl
      | cons a r => exact absurd (ht a (by rw [hx]; exact List.mem_cons_self)) (fun q => q)
  · rw [hW]
    refine vx_ofWH (ws' := []) (cc := zB z) (maxL := zL z) (ret := zR z) (hh := zH z) k1.2.1 rfl ?_
    intro p e s m args below meth c s₁ B hml hP
    refine body p e s m args below meth c ⟨B.exec, B.bytes, hml, ?_, B.returns, B.notSynchronized, fun hk => ?_, ?_⟩ hP
    · rw [← k1.1]; exact findClass_of_methodNamed B.named
    · exact (name_of_methodNamed B.named B.method).1.trans (k7 hk).2.1
    · intro _
      exact vx_table (x := zY z) B (atoms_spec (ws := [Jvm.Cond.codeWith (zY z) (zB z) (zL z) (zR z) (zH z)]) B.pre _ List.mem_cons_self)
theorem zme_ok : ∀ q ∈ zme, (q.2.2.2.1 = 3 → Jvm.Cond.methodLinkNest (zcn q.1) q.2.1 (zY q.2.2.1) "PackSpring" ∈ zFW) ∧ (q.2.2.2.1 ≠ 3 → Jvm.Cond.methodLink (zcn q.1) q.2.1 (zY q.2.2.1) ∈ zFW) := by
  have h : (zme.all fun q => zw q.2.2.2.2 (if q.2.2.2.1 = 3 then .methodLinkNest (zcn q.1) q.2.1 (zY q.2.2.1) "PackSpring" else .methodLink (zcn q.1) q.2.1 (zY q.2.2.1))) = true := by decide +kernel
  intro q hq
  have h1 := of_decide_eq_true (List.all_eq_true.mp h q hq)
  refine ⟨fun h3 => ?_, fun h3 => ?_⟩
  · rw [if_pos h3] at h1; exact zFW_of h1 rfl
  · rw [if_neg h3] at h1; exact zFW_of h1 rfl
theorem zok0_g {y b c nx pc len : Nat} {a : Int} {ins : Instr} (h : zok0 y a b c nx pc ins len = true) : nx = pc + 3 ∧ len = 3 ∧ zFr b + 1 ≤ zFr y ∧ 8 + (zL b + 11) + zLo b ≤ zLo y ∧ b < 315 ∧ ∃ i, (∃ q ∈ zme, q.1 = zO y ∧ q.2.1 = i ∧ q.2.2.1 = b ∧ q.2.2.2.1 = c) ∧
    ((c = 0 ∧ ins = .invokevirtual i ∧ zKd b = 0) ∨ (c = 1 ∧ ins = .invokestatic i ∧ zKd b = 1) ∨ (c = 2 ∧ ins = .invokespecial i ∧ zKd b = 2) ∨ (c = 3 ∧ ins = .invokespecial i ∧ zKd b = 2)) := by
  unfold zok0 at h
  simp only [Bool.and_eq_true, decide_eq_true_eq] at h
  obtain ⟨⟨h1, h2, h3, h4, h5⟩, h⟩ := h
  refine ⟨h1, h2, h3, h4, h5, ?_⟩
  split at h
  all_goals first
    | (rename_i i
       simp only [Bool.and_eq_true, decide_eq_true_eq] at h
       obtain ⟨h6, h7⟩ := h
       split at h7
       · rename_i q hq
         exact ⟨i, ⟨q, List.mem_of_getElem? hq, of_decide_eq_true h7⟩, by simp [h6]⟩
       · cases h7)
    | cases h
