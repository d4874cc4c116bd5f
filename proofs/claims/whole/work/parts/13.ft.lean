/-! ===== a frame, and a method: what the small machine answers, the real one does ===== -/
theorem BF.moved {D : va_G} {cA : Nat → ClassId} {B0 : Nat} {s U : State} (b : BF D cA B0 s) (hW : s.WarmedH U.vm) (hz : s.heap.size ≤ U.heap.size) (hk : ∀ q, q < s.heap.size → ¬ zA B0 q → U.heap[q]? = s.heap[q]?) : BF D cA B0 U := by
  obtain ⟨h1, h2, h3, h4, h5, h6, h7⟩ := b
  refine ⟨va_K.moved hW.alike h1, fun w hw => zw_move hW (List.mem_filter.mp hw).2 (h2 w hw), vx_Zq.moved hW.alike (h3.kept hk), vx_Zq.moved hW.alike (h4.kept hk), fun q hq => ?_, fun a b ha hb hab => va_Nc.moved hW.alike (h6 a b ha hb hab), Nat.le_trans h7 hz⟩
  obtain ⟨a, ha⟩ := h5 q hq
  exact ⟨a, vk_R.warm hW ha⟩
theorem SX.moved {al : Nat → Nat} {h : HP} {B0 : Nat} {s U : State} {H : Heap} (x : SX al h B0 s H) (hv : s.vm.Alike U.vm) : SX al h B0 U H := fun i hi h6 => by
  obtain ⟨a1, a2⟩ := x i hi h6
  exact ⟨va_X.moved hv a1, a2⟩
def zWs (y : Nat) : List Jvm.Cond := [match zH y with
    | [] => .code (zY y) (zB y) (zL y) (zR y)
    | hh => .codeWith (zY y) (zB y) (zL y) (zR y) hh]
def zRm (y mc ms : Nat) : Room := { frames := zFr y, cells := mc, slots := ms, locals := zLo y }
def ZP (D : va_G) (cA : Nat → ClassId) (B0 : Nat) (al : Nat → Nat) (h : HP) (as : List MV) : Array Value → State → Prop := fun a U => a = (as.map (iV al)).toArray ∧ BF D cA B0 U ∧ RH D cA (zA B0) al h U.heap ∧ SX al h B0 U U.heap ∧ ∀ w ∈ as, oV (hN h) w
def ZE (D : va_G) (cA : Nat → ClassId) (B0 : Nat) (al : Nat → Nat) (h h1 : HP) (st t : State) (r : Option MV) (al1 : Nat → Nat) : Prop := Ext (hN h) al al1 ∧ RH D cA (zA B0) al1 h1 t.heap ∧ SX al1 h1 B0 t t.heap ∧ va_F (zA B0) st t ∧ ∀ w, r = some w → oV (hN h1) w
def ZQ (D : va_G) (cA : Nat → ClassId) (B0 : Nat) (al : Nat → Nat) (h h1 : HP) (o : OUT) : Array Value → State → Outcome → State → Prop := fun _ st oc t => ∃ (r : Option MV) (al1 : Nat → Nat), o = .inl r ∧ oc = .returned (r.map (iV al1)) ∧ ZE D cA B0 al h h1 st t r al1
def ZX (D : va_G) (cA : Nat → ClassId) (B0 : Nat) (al : Nat → Nat) (h h1 : HP) (o : OUT) : String → State → State → Prop := fun E st t => ∃ (e : Nat) (al1 : Nat → Nat), o = .inr e ∧ E = zen e ∧ ZE D cA B0 al h h1 st t none al1
theorem ZP.blind {D : va_G} {cA : Nat → ClassId} {B0 : Nat} {al : Nat → Nat} {h : HP} {as : List MV} : FrameBlind (ZP D cA B0 al h as) := by
  intro a U g mk ⟨h1, h2, h3, h4, h5⟩
  refine ⟨h1, BF.moved (U := U.calling g mk a) h2 (State.WarmedH.refl U) (Nat.le_refl _) (fun q _ _ => rfl), h3, SX.moved (U := U.calling g mk a) h4 (Vm.Alike.refl U.vm), h5⟩
/-- the end of a run, from a start at al0 with costs c0, s0 -/
def ENDR (p : Program) (l : Launch) (e : Env) (R : Room) (s : State) (m : MethodId) (args : Array Value) (below : List Frame) (meth : Method) (c : Code) (Q : State → Prop) (D : va_G) (cA : Nat → ClassId) (B0 n0 c0 s0 : Nat) (al0 : Nat → Nat) (y : Nat) (hf : HP) (r : Option MV) : Prop :=
  ∀ (al1 : Nat → Nat) (H1 : Heap) (locs1 : List Loc) (lm1 : Array Slot) (ip v : Nat), (zK y)[ip]? = some v → Ext n0 al0 al1 → n0 ≤ hN hf → HV D cA B0 al1 hf s H1 locs1 → (∀ w, r = some w → oV (hN hf) w) → lm1.size = zL y → c0 ≤ hf.1.2.1 → s0 ≤ hf.1.2.2 →
    ((qop v = 30 ∧ ∃ x, r = some (.inl x) ∧ (zRs y = 0 ∨ zRs y = 1 ∧ (x = 0 ∨ x = 1))) ∨ (qop v = 39 ∧ ∃ x, r = some (.inr (.inl x))) ∨ (qop v = 31 ∧ r = none)) →
    W p l e R s m args below meth c H1 locs1 (hf.1.2.1 - c0) (hf.1.2.2 - s0) Q (F0 m (qpc v) lm1 (r.toList.map (iV al1)))
def ENDX (p : Program) (l : Launch) (e : Env) (R : Room) (s : State) (m : MethodId) (args : Array Value) (below : List Frame) (meth : Method) (c : Code) (Q : State → Prop) (D : va_G) (cA : Nat → ClassId) (B0 n0 c0 s0 : Nat) (al0 : Nat → Nat) (y : Nat) (hf : HP) (ex : Nat) : Prop :=
  (∀ (al1 : Nat → Nat) (H1 : Heap) (locs1 : List Loc) (lm1 : Array Slot) (ip v : Nat) (hx : HP) (st1 : List MV), (zK y)[ip]? = some v → qop v = 32 → qb v = ex → hf = hThr hx → Ext n0 al0 al1 → n0 ≤ hN hx → HV D cA B0 al1 hx s H1 locs1 → st1.length ≤ 4 → lm1.size = zL y → c0 ≤ hx.1.2.1 → s0 ≤ hx.1.2.2 →
    W p l e R s m args below meth c H1 locs1 (hx.1.2.1 - c0) (hx.1.2.2 - s0) Q (F0 m (qpc v) lm1 (st1.map (iV al1)))) ∧
  (∀ (al1 : Nat → Nat) (H1 : Heap) (locs1 : List Loc) (lm1 : Array Slot) (ip v : Nat) (q : Addr) (ce : Cell) (rest : List Value), (zK y)[ip]? = some v → qop v = 18 → zH y = [] → Ext n0 al0 al1 → n0 ≤ hN hf → HV D cA B0 al1 hf s H1 locs1 → H1[q]? = some ce → ce.vm = .none → s.vm.findClass (zen ex) = some ce.cls → c0 ≤ hf.1.2.1 → s0 ≤ hf.1.2.2 →
    vx_W p l e R s m args below meth c H1 locs1 (hf.1.2.1 - c0) (hf.1.2.2 - s0) Q (F0 m (qpc v) lm1 rest) q)
theorem lv_args_at : ∀ (vs : List Value) (i k : Nat) (v : Value), (∀ w ∈ vs, w.category = 1) → vs[k]? = some v → (i + k, v) ∈ lv_args i vs := by
  intro vs
  induction vs with
  | nil => intro i k v _ h; simp at h
  | cons a r ih =>
    intro i k v hc h
    have hca := hc a List.mem_cons_self
    cases k with
    | zero =>
      simp at h
      subst h
      exact List.mem_cons_self
    | succ k =>
      simp at h
      have := ih (i + 1) k v (fun w hw => hc w (List.mem_cons_of_mem _ hw)) h
      unfold lv_args
      rw [if_neg (by omega)]
      refine List.mem_cons_of_mem _ ?_
      rw [show i + (k + 1) = i + 1 + k by omega]
      exact this
theorem lg_sl_len (vs : List Value) (hc : ∀ w ∈ vs, w.category = 1) : (lg_sl vs).length = vs.length := by
  induction vs with
  | nil => rfl
  | cons a r ih =>
    have hca := hc a List.mem_cons_self
    have := ih (fun w hw => hc w (List.mem_cons_of_mem _ hw))
    unfold lg_sl at this ⊢
    rw [List.flatMap_cons, List.length_append, this, if_neg (by omega)]
    simp
    omega
/-- a method's first frame -/
theorem FL_entry {al : Nat → Nat} {n z : Nat} {as : List MV} (hs : as.all zsm = true) (ho : ∀ w ∈ as, oV n w) (hl : as.length ≤ zL z) :
    ∃ lm : Array Slot, FL al n (zpad z as) lm (zL z) ∧ ∀ m, entryFrame m ((as.map (iV al)).toArray) (zL z) = F0 m 0 lm [] := by
  have hc : ∀ w ∈ as.map (iV al), w.category = 1 := by
    intro w hw
    obtain ⟨v, hv, rfl⟩ := List.mem_map.mp hw
    refine iV_cat al (fun x hx => ?_)
    have := List.all_eq_true.mp hs v hv
    rw [hx] at this
    exact absurd this (by simp [zsm])
  have hlen := lg_sl_len _ hc
  rw [List.length_map] at hlen
  have hh := lv_entry (as.map (iV al)) (n := zL z) (by rw [hlen]; exact hl)
  refine ⟨_, ⟨?_, ?_, _, hh, ?_⟩, fun m => lg_entry_eq m _ _⟩
  · unfold zpad
    rw [List.length_append, List.length_replicate]
    omega
  · intro v hv
    unfold zpad at hv
    rcases List.mem_append.mp hv with h | h
    · exact ho v h
    · rw [List.eq_of_mem_replicate h]
      exact rg0
  · intro k v hk hv
    unfold zpad at hk
    by_cases hkl : k < as.length
    · rw [List.getElem?_append_left hkl] at hk
      have := lv_args_at (as.map (iV al)) 0 k (iV al v) hc (by rw [List.getElem?_map, hk]; rfl)
      rwa [Nat.zero_add] at this
    · rw [List.getElem?_append_right (by omega)] at hk
      have := List.eq_of_mem_replicate (List.mem_of_getElem? hk)
      exact absurd this (hv 0)
