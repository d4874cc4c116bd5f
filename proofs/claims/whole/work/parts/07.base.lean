/-! ===== what a method's start knows; what the checks say, row by row ===== -/
abbrev zA (B0 : Nat) : Nat → Prop := fun q => B0 ≤ q
def zgM (w : Jvm.Cond) : Bool := (w.onTables && w.keepsFace) || match w with
  | .arrayClass _ => true
  | .arrayOver (.object _) => true
  | .methodLinkNest .. => true
  | _ => false
def zFW : List Jvm.Cond := lw_tbl.filter zgM
theorem zw_move {args a' : Array Value} {s U : State} {w : Jvm.Cond} (hW : s.WarmedH U.vm) (hg : zgM w = true) (h : w.before args s = true) : w.before a' U = true := by
  by_cases h1 : (w.onTables && w.keepsFace) = true
  · simp only [Bool.and_eq_true] at h1
    exact va_tabs (u := s.setVm U.vm) h1.1 rfl (Cond.before_shiftedFace (State.Shifted.of_warmed hW) _ h1.2 h)
  · cases w
    case arrayClass ty => exact word_at hW (Or.inr ⟨_, rfl⟩) h
    case arrayOver ty =>
      cases ty
      case object C => exact va_AO.use (va_AO.moved hW.alike (va_AO.of h))
      all_goals simp_all [zgM]
    case methodLinkNest a i x b => exact va_Nw.use rfl (va_Nw.warmM hW (va_Nw.of rfl h))
    all_goals simp_all [zgM]
def zEq (U : State) : Prop := ∀ q ∈ zth, ∃ a, vk_R (zcn q.1) q.2.2.1 q.2.2.2.2.2.2.1 a U
def zNq (U : State) : Prop := ∀ e1 e2 : Nat, e1 < 3 → e2 < 3 → e1 ≠ e2 → va_Nc (zen e1) (zen e2) U
/-- what stays true of the machine: classes, words, statics, texts -/
def BF (D : va_G) (cA : Nat → ClassId) (B0 : Nat) (U : State) : Prop := va_K D zCl (zTys cA) U ∧ (∀ w ∈ zFW, w.before #[] U = true) ∧ vx_Zq Bundle.tN "UNASSIGNED_STACK" Bundle.steD (zA B0) U U.heap ∧ vx_Zq Bundle.tN "SUPPRESSED_SENTINEL" Bundle.listD (zA B0) U U.heap ∧ zEq U ∧ zNq U ∧ B0 ≤ U.heap.size
/-- the script's cell -/
def SX (al : Nat → Nat) (h : HP) (B0 : Nat) (U : State) (H : Heap) : Prop := ∀ i, i < hN h → (hK h i).1 = 6 → va_X (al i) (hK h i).2.toNat (fun j => Int32.ofInt (hI h i j)) U H ∧ al i < H.size ∧ al i < B0 ∧ 0 ≤ (hK h i).2 ∧ (hK h i).2 < 2147483648
def CX (p : Program) (s : State) (m : MethodId) (meth : Method) (c : Code) (y : Nat) : Prop := p.tables.exec = Jvm.exec ∧ c.code = zB y ∧ c.maxLocals = zL y ∧ s.vm.findClass (zcn (zO y)) = some m.cls ∧ meth.sig.returnType = zR y ∧ meth.locks = false ∧ (zKd y = 2 → meth.name = "<init>") ∧ (y < 315 → c.exceptionTable.toList = tableOf (zH y))
/-- locals -/
def FL (al : Nat → Nat) (n : Nat) (ls : List MV) (lm : Array Slot) (nL : Nat) : Prop := ls.length = nL ∧ (∀ v ∈ ls, oV n v) ∧ ∃ lv : List (Nat × Value), lv_has lm nL lv ∧ ∀ (k : Nat) (v : MV), ls[k]? = some v → (∀ x, v ≠ .inr (.inr x)) → (k, iV al v) ∈ lv
theorem FL.at {al : Nat → Nat} {n nL k : Nat} {ls : List MV} {lm : Array Slot} {v : MV} (F : FL al n ls lm nL) (hk : ls[k]? = some v) (hv : ∀ x, v ≠ .inr (.inr x)) : lm[k]? = some (.val (iV al v)) := by
  obtain ⟨-, -, lv, h1, h2⟩ := F
  exact h1.2.2 _ (h2 k v hk hv)
theorem FL.ext {al al1 : Nat → Nat} {n n1 nL : Nat} {ls : List MV} {lm : Array Slot} (F : FL al n ls lm nL) (hE : Ext n al al1) (hn : n ≤ n1) : FL al1 n1 ls lm nL := by
  obtain ⟨h0, h1, lv, h2, h3⟩ := F
  exact ⟨h0, fun v hv => oV_mono hn (h1 v hv), lv, h2, fun k v hk hv => by rw [iV_ext hE (h1 v (List.mem_of_getElem? hk))]; exact h3 k v hk hv⟩
theorem FL.size {al : Nat → Nat} {n nL : Nat} {ls : List MV} {lm : Array Slot} (F : FL al n ls lm nL) : lm.size = nL := by
  obtain ⟨-, -, lv, h1, -⟩ := F
  exact h1.1
theorem iV_cat (al : Nat → Nat) {v : MV} (hv : ∀ x, v ≠ .inr (.inr x)) : (iV al v).category = 1 := by
  rcases v with x | ⟨_ | i⟩ | x
  · rfl
  · rfl
  · rfl
  · exact absurd rfl (hv x)
theorem FL.store {al : Nat → Nat} {n nL b : Nat} {ls : List MV} {lm : Array Slot} {v : MV} (F : FL al n ls lm nL) (ho : oV n v) (hv : ∀ x, v ≠ .inr (.inr x)) (hb : b < ls.length) :
    ∃ lv : List (Nat × Value), lv_has lm nL lv ∧ b < nL ∧ (∀ (k : Nat) (v : MV), ls[k]? = some v → (∀ x, v ≠ .inr (.inr x)) → (k, iV al v) ∈ lv) ∧ ∀ lm1, lv_has lm1 nL ((b, iV al v) :: lv.filter (fun q => !(q.1 == b) && !(q.1 + 1 == b && q.2.category == 2))) → FL al n (ls.set b v) lm1 nL := by
  obtain ⟨h0, h1, lv, h2, h3⟩ := F
  refine ⟨lv, h2, by omega, h3, fun lm1 hl => ⟨by rw [List.length_set]; exact h0, fun w hw => ?_, _, hl, fun k w hk hw => ?_⟩⟩
  · rcases List.mem_or_eq_of_mem_set hw with h | h
    · exact h1 w h
    · rw [h]; exact ho
  · rw [List.getElem?_set] at hk
    by_cases hkb : b = k
    · subst hkb
      simp only [if_true, hb] at hk
      cases hk
      exact List.mem_cons_self
    · rw [if_neg hkb] at hk
      refine List.mem_cons_of_mem _ (List.mem_filter.mpr ⟨h3 k w hk hw, ?_⟩)
      have hc := iV_cat al hw
      simp [hc]
      omega
section OKS
variable {y op b c nx pc len : Nat} {a : Int} {ins : Instr}
theorem zokI_get {ip v : Nat} (h : zokI y ip = true) (hv : (zK y)[ip]? = some v) : ∃ ins len, decode (zB y) (qpc v) = .ok (ins, len) ∧ (if qop v = 18 then zok0 y (qa v) (qb v) (qc v) (zPc y (ip + 1)) (qpc v) ins len else match zfam (qop v) with
      | 1 => zok1 y (qop v) (qa v) (qb v) (zPc y (ip + 1)) (qpc v) ins len
      | 2 => zok2 y (qop v) (qb v) (qc v) (zPc y (ip + 1)) (qpc v) ins len
      | 3 => zok3 y (qop v) (qa v) (qb v) (qc v) (zPc y (ip + 1)) (qpc v) ins len
      | 4 => zok4 y (qop v) (qb v) (qc v) (qpc v) ins len
      | 5 => zok5 (qop v) (zPc y (ip + 1)) (qpc v) ins len
      | _ => false) = true := by
  unfold zokI at h
  rw [hv] at h
  cases hd : decode (zB y) (qpc v) with
  | error z => simp [hd] at h
  | ok q =>
    obtain ⟨ins, len⟩ := q
    refine ⟨ins, len, rfl, ?_⟩
    simp only [hd] at h
    exact h
theorem zPc_at {ip v : Nat} (hv : (zK y)[ip]? = some v) : zPc y ip = qpc v := by
  unfold zPc
  rw [List.getD_eq_getElem?_getD, hv]
  rfl
theorem zok1_0 (h : zok1 y 0 a b nx pc ins len = true) : nx = pc + len ∧ rgI a ∧ ((∃ n, ins = .iconst n ∧ Int32.ofInt n = Int32.ofInt a ∧ len = 1) ∨ (∃ n, ins = .bipush n ∧ (Int8.ofInt n).toInt32 = Int32.ofInt a ∧ len = 2) ∨ (∃ n, ins = .sipush n ∧ (Int16.ofInt n).toInt32 = Int32.ofInt a ∧ len = 3)) := by
  unfold zok1 at h
  simp only [Bool.and_eq_true, decide_eq_true_eq] at h
  obtain ⟨h0, h1⟩ := h
  split at h1 <;> first | (rename_i q1 q2; exact absurd q1 (by decide)) | (simp [rgI] at h1 ⊢ <;> simp_all)
theorem zok1_41 (h : zok1 y 41 a b nx pc ins len = true) : nx = pc + len ∧ rgI a ∧ ∃ i, (ins = .ldc i ∧ len = 2 ∨ ins = .ldc_w i ∧ len = 3) ∧ ∃ q ∈ zco, q.1 = zO y ∧ q.2.1 = i ∧ q.2.2.1 = a := by
  unfold zok1 at h
  simp only [Bool.and_eq_true, decide_eq_true_eq] at h
  obtain ⟨h0, h1⟩ := h
  split at h1 <;> first | (rename_i q1 q2; exact absurd q1 (by decide)) | (simp [rgI] at h1 ⊢ <;> simp_all)
theorem zok1_38 (h : zok1 y 38 a b nx pc ins len = true) : nx = pc + 1 ∧ rgI a ∧ len = 1 ∧ ∃ n, ins = .lconst n ∧ Int64.ofNat (n : Nat) = Int64.ofInt a := by
  unfold zok1 at h
  simp only [Bool.and_eq_true, decide_eq_true_eq] at h
  obtain ⟨h0, h1⟩ := h
  split at h1 <;> first | (rename_i q1 q2; exact absurd q1 (by decide)) | (simp [rgI] at h1 ⊢ <;> simp_all)
theorem zok1_33 (h : zok1 y 33 a b nx pc ins len = true) : nx = pc + 1 ∧ len = 1 ∧ ins = .aconst_null := by
  unfold zok1 at h
  simp only [Bool.and_eq_true, decide_eq_true_eq] at h
  obtain ⟨h0, h1⟩ := h
  split at h1 <;> first | (rename_i q1 q2; exact absurd q1 (by decide)) | (simp [rgI] at h1 ⊢ <;> simp_all)
theorem zok1_1 (h : zok1 y 1 a b nx pc ins len = true) : nx = pc + len ∧ ((∃ k : Fin 4, ins = .iload_n k ∧ (k : Nat) = b ∧ len = 1) ∨ (ins = .iload b ∧ len = 2)) := by
  unfold zok1 at h
  simp only [Bool.and_eq_true, decide_eq_true_eq] at h
  obtain ⟨h0, h1⟩ := h
  split at h1 <;> first | (rename_i q1 q2; exact absurd q1 (by decide)) | (simp [rgI] at h1 ⊢ <;> simp_all)
theorem zok1_42 (h : zok1 y 42 a b nx pc ins len = true) : nx = pc + len ∧ ((∃ k : Fin 4, ins = .aload_n k ∧ (k : Nat) = b ∧ len = 1) ∨ (ins = .aload b ∧ len = 2)) := by
  unfold zok1 at h
  simp only [Bool.and_eq_true, decide_eq_true_eq] at h
  obtain ⟨h0, h1⟩ := h
  split at h1 <;> first | (rename_i q1 q2; exact absurd q1 (by decide)) | (simp [rgI] at h1 ⊢ <;> simp_all)
theorem zok1_2 (h : zok1 y 2 a b nx pc ins len = true) : nx = pc + len ∧ ((∃ k : Fin 4, ins = .istore_n k ∧ (k : Nat) = b ∧ len = 1) ∨ (ins = .istore b ∧ len = 2)) := by
  unfold zok1 at h
  simp only [Bool.and_eq_true, decide_eq_true_eq] at h
  obtain ⟨h0, h1⟩ := h
  split at h1 <;> first | (rename_i q1 q2; exact absurd q1 (by decide)) | (simp [rgI] at h1 ⊢ <;> simp_all)
theorem zok1_43 (h : zok1 y 43 a b nx pc ins len = true) : nx = pc + len ∧ ((∃ k : Fin 4, ins = .astore_n k ∧ (k : Nat) = b ∧ len = 1) ∨ (ins = .astore b ∧ len = 2)) := by
  unfold zok1 at h
  simp only [Bool.and_eq_true, decide_eq_true_eq] at h
  obtain ⟨h0, h1⟩ := h
  split at h1 <;> first | (rename_i q1 q2; exact absurd q1 (by decide)) | (simp [rgI] at h1 ⊢ <;> simp_all)
theorem zok1_3 (h : zok1 y 3 a b nx pc ins len = true) : nx = pc + 3 ∧ ins = .iinc b a ∧ len = 3 := by
  unfold zok1 at h
  simp only [Bool.and_eq_true, decide_eq_true_eq] at h
  obtain ⟨h0, h1⟩ := h
  split at h1 <;> first | (rename_i q1 q2; exact absurd q1 (by decide)) | (simp [rgI] at h1 ⊢ <;> simp_all)
theorem zok1_27 (h : zok1 y 27 a b nx pc ins len = true) : nx = pc + 1 ∧ ins = .dup ∧ len = 1 := by
  unfold zok1 at h
  simp only [Bool.and_eq_true, decide_eq_true_eq] at h
  obtain ⟨h0, h1⟩ := h
  split at h1 <;> first | (rename_i q1 q2; exact absurd q1 (by decide)) | (simp [rgI] at h1 ⊢ <;> simp_all)
theorem zok1_28 (h : zok1 y 28 a b nx pc ins len = true) : nx = pc + 1 ∧ ins = .dup2 ∧ len = 1 := by
  unfold zok1 at h
  simp only [Bool.and_eq_true, decide_eq_true_eq] at h
  obtain ⟨h0, h1⟩ := h
  split at h1 <;> first | (rename_i q1 q2; exact absurd q1 (by decide)) | (simp [rgI] at h1 ⊢ <;> simp_all)
theorem zok1_29 (h : zok1 y 29 a b nx pc ins len = true) : nx = pc + 1 ∧ ins = .pop ∧ len = 1 := by
  unfold zok1 at h
  simp only [Bool.and_eq_true, decide_eq_true_eq] at h
  obtain ⟨h0, h1⟩ := h
  split at h1 <;> first | (rename_i q1 q2; exact absurd q1 (by decide)) | (simp [rgI] at h1 ⊢ <;> simp_all)
theorem zok1_36 (h : zok1 y 36 a b nx pc ins len = true) : nx = pc + 1 ∧ ins = .i2l ∧ len = 1 := by
  unfold zok1 at h
  simp only [Bool.and_eq_true, decide_eq_true_eq] at h
  obtain ⟨h0, h1⟩ := h
  split at h1 <;> first | (rename_i q1 q2; exact absurd q1 (by decide)) | (simp [rgI] at h1 ⊢ <;> simp_all)
theorem zok1_37 (h : zok1 y 37 a b nx pc ins len = true) : nx = pc + 1 ∧ ins = .lcmp ∧ len = 1 := by
  unfold zok1 at h
  simp only [Bool.and_eq_true, decide_eq_true_eq] at h
  obtain ⟨h0, h1⟩ := h
  split at h1 <;> first | (rename_i q1 q2; exact absurd q1 (by decide)) | (simp [rgI] at h1 ⊢ <;> simp_all)
theorem zok1_40 (h : zok1 y 40 a b nx pc ins len = true) : nx = pc + 3 ∧ len = 3 ∧ 1 ≤ zFr y ∧ 20 ≤ zLo y ∧ ∃ i, ins = .invokespecial i ∧ ∃ q ∈ zob, q.1 = zO y ∧ q.2.1 = i := by
  unfold zok1 at h
  simp only [Bool.and_eq_true, decide_eq_true_eq] at h
  obtain ⟨h0, h1⟩ := h
  split at h1 <;> first | omega | (cases h1; done) | skip
  · rename_i i q1
    simp only [Bool.and_eq_true, decide_eq_true_eq] at h1
    obtain ⟨⟨rfl, h2, h3⟩, h4⟩ := h1
    split at h4
    · rename_i q hq
      exact ⟨h0, rfl, h2, h3, i, rfl, q, List.mem_of_getElem? hq, of_decide_eq_true h4⟩
    · cases h4
end OKS
