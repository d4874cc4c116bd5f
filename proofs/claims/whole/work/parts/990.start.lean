/-! THE CLAIM OUT OF ONE WALK OF THE LAW'S BODY. Your part is whole_start (and what it stands on); all else here is the same for every law, but numbers. -/
def R_law : String := "PackSpringLaw"
def lw_P (b : Addr) (xs : List Int32) (args : Array Value) (s : State) : Prop := args = #[.ref b] ∧ s.IntsAt b xs ∧ xs.length ≤ 3072 ∧ (Jvm.Cond.and given_1 narrow_1).before args s = true
def lw_Q (_ : Array Value) (s : State) (o : Outcome) (t : State) : Prop := o = .returned (some (.int 1)) ∧ Framed s o t [] 601024 7293034
def lw_Z (below : List Frame) (a : Array Value) (s : State) : State → Prop := fun t => ∃ o, t.status = .running ∧ Ended t below o ∧ lw_Q a s o t
/-- the law's own end, with 1 on the stack, nothing written that was there before, its room as the claim has it -/
theorem lw_ret {p : Program} {l : Launch} {e : Env} {s : State} {m : MethodId} {below : List Frame} {meth : Method} {c : Code} {b : Nat} (hx : p.tables.exec = Jvm.exec) (hb : c.code = code) (hr : meth.sig.returnType = ret) (hlocks : meth.locks = false) {pc : Nat} {H : Heap} {ls : Array Slot} (hdg : decode code pc = .ok (.ireturn, 1)) : W p l e room_1 s m #[Value.ref b] below meth c H [] 601024 7293034 (lw_Z below #[Value.ref b] s) (F0 m pc ls [.int 1]) := by
  intro T hT X
  obtain ⟨fs, hret, hrun, hended, hW, hframe⟩ := X.leave (v := some (.int 1)) (hlocks := hlocks) (fun h => by rw [hr] at h; cases h)
  have hmeth' : T.vm.method? m = some meth := X.method'
  refine ⟨T.setFrames fs, ?_, .returned (some (.int 1)), hrun, hended, rfl, ⟨_, rfl⟩, hW, hframe⟩
  jvm_step X.here [X.here.top, hx, hb, hdg, hmeth', hr, ret, narrow_b1]
  (try refine ⟨rfl, ?_⟩); (try refine ⟨rfl, ?_⟩)
  first | (intro acts; rw [hret _ acts rfl rfl rfl]) | rw [hret _ _ rfl rfl rfl]
  exact Steps.refl _
/-- what holds at the law's entry: the machine, the code, the tables' words (any of lw_tbl by 'hts w (by decide +kernel)'), the script of L ints xs at the cell b, what the Statement gives of the start (any of its parts by flat_of_before) -/
def lw_At (p : Program) (s : State) (m : MethodId) (meth : Method) (c : Code) (b L : Nat) (xs : Nat → Int32) : Prop :=
  p.tables.exec = Jvm.exec ∧ c.code = code ∧ meth.sig.returnType = ret ∧ c.maxLocals = 7 ∧ s.vm.findClass R_law = some m.cls ∧ (∀ w ∈ lw_tbl, w.before #[Value.ref b] s = true) ∧ va_X b L xs s s.heap ∧ b < s.heap.size ∧ meth.locks = false ∧ (Jvm.Cond.and given_1 narrow_1).before #[Value.ref b] s = true
def zst : List Jvm.Cond := zth.map fun q => .exactly (.string (zcn q.1) q.2.2.1) "java/lang/String"
theorem zst_ok : ∀ w ∈ zst, w ∈ flatC (Jvm.Cond.and given_1 narrow_1) := by decide +kernel
theorem znc_ok : ∀ e1, e1 < 3 → ∀ e2, e2 < 3 → e1 ≠ e2 → Jvm.Cond.not (.castable (zen e1) (zen e2)) ∈ flatC (Jvm.Cond.and given_1 narrow_1) := by decide +kernel
theorem zsr_ok : ∀ q ∈ zth, Jvm.Cond.stringRef (zcn q.1) q.2.2.1 q.2.2.2.2.2.2.1 ∈ lw_tbl := by
  have h : (zth.all fun q => zw q.2.2.2.2.2.2.2.2.2 (.stringRef (zcn q.1) q.2.2.1 q.2.2.2.2.2.2.1)) = true := by decide +kernel
  intro q hq
  exact List.mem_of_getElem? (of_decide_eq_true (List.all_eq_true.mp h q hq))
theorem zin_ok : ∀ ci, ci < 12 → Jvm.Cond.instantiable (zcn ci) (zNF ci) ∈ lw_tbl := by
  have h : ((List.range 12).all fun ci => znw.any fun q => decide (q.2.2.1 = ci)) = true := by decide +kernel
  intro ci hc
  obtain ⟨q, hq, he⟩ := List.any_eq_true.mp (List.all_eq_true.mp h ci (List.mem_range.mpr hc))
  have he := of_decide_eq_true he
  have := (znw_ok q hq).2.1
  rw [he] at this
  exact (List.mem_filter.mp this).1
theorem bf_start {s : State} {b : Nat} (hts : ∀ w ∈ lw_tbl, w.before #[Value.ref b] s = true) (hgv : (Jvm.Cond.and given_1 narrow_1).before #[Value.ref b] s = true) : ∃ (D : va_G) (cA : Nat → ClassId), BF D cA s.heap.size s := by
  have hfl := flat_of_before _ hgv
  have hFW : ∀ w ∈ zFW, w.before #[Value.ref b] s = true := fun w hw => hts w (List.mem_filter.mp hw).1
  have hcl : ∀ ci : Nat, ∃ (cC : ClassId) (iS : Nat → Nat), ci < 12 → u_Kn s (zcn ci) (zTT ci) (zNF ci) cC iS := by
    intro ci
    by_cases hc : ci < 12
    · obtain ⟨cC, iS, h⟩ := u_known hts (fun w hw => (List.mem_filter.mp (zlay_ok ci hc w hw)).1) (hts _ (zin_ok ci hc))
      exact ⟨cC, iS, fun _ => h⟩
    · exact ⟨0, fun _ => 0, fun h => absurd h hc⟩
  have har : ∀ t : Nat, ∃ cA : ClassId, t < 5 → ArrOfT s cA (zaT t) ∧ va_RA s cA (zaT t) := by
    intro t
    by_cases ht : t < 3
    · have hw := hFW _ (zac_ok t ht)
      obtain ⟨c, k, comp, h1, h2, h3⟩ := Cond.arrayClass_spec hw
      refine ⟨c, fun _ => ⟨fun n z => ⟨fun k h => (by cases h), k, h2, comp, h3⟩, ?_⟩⟩
      rcases (show t = 0 ∨ t = 1 ∨ t = 2 by omega) with rfl | rfl | rfl <;> exact h1
    · by_cases ht5 : t < 5
      · have hq : ∃ q ∈ zan, q.2.2.1 = t := by
          rcases (show t = 3 ∨ t = 4 by omega) with rfl | rfl
          · exact ⟨_, List.mem_cons_self, rfl⟩
          · exact ⟨_, List.mem_cons_of_mem _ List.mem_cons_self, rfl⟩
        obtain ⟨q, hq1, hq2⟩ := hq
        have hw := (zan_ok q hq1).2
        rw [hq2] at hw
        obtain ⟨comp, c, k, h1, h2, h3, h4, h5⟩ := Cond.arrayOver_spec (hFW _ hw)
        refine ⟨c, fun _ => ?_⟩
        have e : zaT t = .object (zaC t) := by
          rcases (show t = 3 ∨ t = 4 by omega) with rfl | rfl <;> rfl
        rw [e]
        exact ⟨fun n z => ⟨fun k h => (by cases h), k, h3, comp, h4⟩, k, comp, h3, h4, h1, h5⟩
      · exact ⟨0, fun h => absurd h ht5⟩
  have hlt : ∀ a : Nat, a < s.heap.size → ¬ zA s.heap.size a := fun a ha h => by have : s.heap.size ≤ a := h; omega
  have i1 : Jvm.Cond.initialized Bundle.tN ∈ lw_tbl := List.mem_of_getElem? (i := 98) (by decide +kernel)
  refine ⟨(fun ci => Classical.choose (hcl ci), fun ci => Classical.choose (Classical.choose_spec (hcl ci))), fun t => Classical.choose (har t), ⟨fun ci q hq => ?_, fun k q hq => ?_⟩, fun w hw => zw_move (State.WarmedH.refl s) (List.mem_filter.mp hw).2 (hFW w hw), ?_, ?_, fun q hq => ?_, fun e1 e2 h1 h2 h3 => va_Nc.of (hfl _ (znc_ok e1 h1 e2 h2 h3)), Nat.le_refl _⟩
  · have hc : ci < 12 := (List.getElem?_eq_some_iff.mp hq).1
    have := zcl_at ci hc
    rw [hq] at this
    cases this
    exact Classical.choose_spec (Classical.choose_spec (hcl ci)) hc
  · have hk : k < 5 := (List.getElem?_eq_some_iff.mp hq).1
    have h := Classical.choose_spec (har k) hk
    rcases (show k = 0 ∨ k = 1 ∨ k = 2 ∨ k = 3 ∨ k = 4 by omega) with rfl | rfl | rfl | rfl | rfl <;> (cases hq; exact h)
  · exact vx_Zqof (args := #[Value.ref b]) (hts _ (List.mem_of_getElem? (i := 493) (by decide +kernel))) (hts _ i1) (hfl _ (by decide +kernel)) hlt
  · exact vx_Zqof (args := #[Value.ref b]) (hts _ (List.mem_of_getElem? (i := 495) (by decide +kernel))) (hts _ i1) (hfl _ (by decide +kernel)) hlt
  · have h1 := hts _ (zsr_ok q hq)
    have h2 := hfl _ (zst_ok _ (List.mem_map.mpr ⟨q, hq, rfl⟩))
    obtain ⟨a, c, cell, k, q1, -⟩ := Cond.exactly_spec h2
    exact ⟨a, vk_R.of h1 q1⟩
set_option maxHeartbeats 4000000 in
theorem whole_start {p : Program} {e : Env} {s : State} {m : MethodId} {below : List Frame} {meth : Method} {c : Code} (l : Launch) (hflags : l.flags = flags0) {b L : Nat} {xs : Nat → Int32} (hL : L ≤ 3072) (C0 : lw_At p s m meth c b L xs) : W p l e room_1 s m #[Value.ref b] below meth c s.heap [] 0 0 (lw_Z below #[Value.ref b] s) (entryFrame m ([Value.ref b] : List Value).toArray 7) := by
  have hl : l.stackTraces = false := by
    unfold Launch.stackTraces
    rw [hflags]
    decide +kernel
  obtain ⟨hx, hb, hr, hml, hown, hts, hX, hbl, hlocks, hgv⟩ := C0
  obtain ⟨D, cA, hbf⟩ := bf_start hts hgv
  obtain ⟨n, hf, he, hcc, hcs⟩ := pure_ok L xs hL
  have C : CX p s m meth c 315 := ⟨hx, hb, hml, hown, hr, hlocks, fun h => by exact absurd h (by decide), fun h => absurd h (by decide)⟩
  obtain ⟨lm, hFL, hent⟩ := FL_entry (al := fun _ => b) (n := 1) (z := 315) (as := [.inr (.inl (some 0))]) rfl (fun w hw => by rw [List.mem_singleton.mp hw]; exact Nat.zero_lt_one) (by decide)
  have hent := hent m
  have h6 : ∀ i : Nat, (hK (h0 L xs) i).1 = 6 := fun _ => rfl
  have hiL : iL (h0 L xs) = [] := by
    unfold iL
    rw [List.filter_eq_nil_iff]
    intro i _
    rw [h6]
    decide
  have hiW : iW cA (fun _ => b) (h0 L xs) = [] := by unfold iW; rw [hiL]; rfl
  have V : HV D cA s.heap.size (fun _ => b) (h0 L xs) s s.heap [] := by
    refine ⟨⟨?_, ?_, fun i k => rg_i32 _, fun i k r hr => (by cases hr), fun i hi => (by rw [h6] at hi; omega)⟩, fun i hi _ => ⟨?_, hbl, hbl, Int.natCast_nonneg L, by show (L : Int) < _; omega⟩, va_S.rf⟩
    · rw [hiW]; exact fun k q h => by simp at h
    · rw [hiW]; exact ⟨fun i j p q h => by simp at h, fun k q h => by simp at h⟩
    · obtain ⟨scr, a1, a2, a3, a4, a5⟩ := hX
      refine ⟨scr, a1, a2, a3, a4, fun j hj => ?_⟩
      rw [a5 j hj]
      show _ = some (Value.int (Int32.ofInt (xs (Int.toNat (j : Int))).toInt))
      rw [Int.toNat_natCast, Int32.ofInt_toInt]
  have K := ft_all hl zOK_ok n 315 0 (zpad 315 [.inr (.inl (some 0))]) [] (h0 L xs) hf _ he (by decide) p e room_1 s m #[Value.ref b] below meth c s.heap [] (lw_Z below #[Value.ref b] s) (fun _ => b) (fun _ => b) lm 1 0 0 C hbf ⟨by decide +kernel, by decide +kernel⟩ V hFL (fun w hw => by cases hw) Ext.rf (Nat.le_refl _) (Nat.le_refl _) (Nat.le_refl _) (by show hf.1.2.1 - 0 ≤ 601024; omega) (by show hf.1.2.2 - 0 ≤ 7293034; omega)
    (fun r hr al1 H1 locs1 lm1 ip v hv X hn V1 ho hsz hc0 hs0 hop => by
      cases hr
      obtain ⟨ins, len, hd, hk⟩ := zokI_get (zOK_ok.1 315 (by decide) ip) hv
      rcases hop with ⟨hop, x, hx1, hsh⟩ | ⟨hop, x, hx1⟩ | ⟨hop, hx1⟩
      · rw [hop, if_neg (by decide), show zfam 30 = 4 from rfl] at hk
        obtain ⟨rfl, rfl, hrr⟩ := zok4_30 hk
        refine va_forget (fun q hq => V1.2.2.2.2 q hq) ?_
        refine W.widen (k := 601024) (n := 7293034) (by omega) (by omega) ?_
        exact lw_ret hx hb hr hlocks hd
      · cases hx1
      · cases hx1)
    (fun x hx => by cases hx)
  have e0 : entryFrame m ([Value.ref b] : List Value).toArray 7 = F0 m 0 lm [] := hent
  rw [e0]
  exact K
set_option maxHeartbeats 4000000 in
theorem lw_walk (l : Launch) (hflags : l.flags = flags0) (b : Addr) (xs : List Int32) : MetFree l x (headSpec (Jvm.Cond.code x code maxLocals ret :: tables_1) room_1) (lw_P b xs) (fun _ _ _ _ _ => True) lw_Q := by
  refine MetFree.of_bodyS (code := code) (maxLocals := maxLocals) (ret := ret) (by decide) ?_ ?_
  · intro args s m h hn
    obtain ⟨meth, c, h1, h2, h3, h4, h5, h6, -, -⟩ := Cond.code_spec hn (atoms_spec (ws := Jvm.Cond.code x code maxLocals ret :: tables_1) h _ List.mem_cons_self)
    exact ⟨meth, c, h1, h2, h3, h4, h5, h6⟩
  · intro p e s m args below meth c s₁ B hml0 hP _
    obtain ⟨rfl, hx, hbd, hgv⟩ := hP
    obtain ⟨scr, harrAt, hlist, hof, hsmall⟩ := hx
    obtain ⟨hcb, hkn, -, -⟩ := State.arrayAt?_spec harrAt
    have hown : s.vm.findClass R_law = some m.cls := findClass_of_methodNamed B.named
    have hts0 : ∀ c ∈ (Jvm.Cond.code x code maxLocals ret :: tables_1), c.before #[Value.ref b] s = true := atoms_spec (ws := Jvm.Cond.code x code maxLocals ret :: tables_1) B.pre
    have hts : ∀ w ∈ lw_tbl, w.before #[Value.ref b] s = true := k2_hts_sels lw_privs (fun w hw => hts0 w (List.mem_cons_of_mem _ hw)) lw_privs_ok
    have hml : c.maxLocals = 7 := B.maxLocals_eq (hts0 _ List.mem_cons_self)
    have X₀ : Stand p l e room_1 s m #[Value.ref b] below meth c s₁ [] 0 0 := Stand.of_body B
    have hh0 : s₁.heap = s.heap := by rw [B.state]; rfl
    have hsz : scr.slots.size = xs.length := by rw [← Array.length_toList, hlist, List.length_map]
    have hval : ∀ j : Nat, j < xs.length → scr.slots[j]? = some (.int (xs.getD j 0)) := fun j hj => by
      rw [← Array.getElem?_toList, hlist]
      simp [hj]
    have hbl : b < s.heap.size := (Array.getElem?_eq_some_iff.mp hcb).1
    have hX : va_X b xs.length (fun j => xs.getD j 0) s s.heap := ⟨scr, hcb, hof, hkn, hsz, hval⟩
    have K : W p l e room_1 s m #[Value.ref b] below meth c s₁.heap [] 0 0 (lw_Z below #[Value.ref b] s) (entryFrame m ([Value.ref b] : List Value).toArray 7) := by
      rw [hh0]
      exact whole_start l hflags hbd ⟨B.exec, B.bytes, B.returns, hml, hown, hts, hX, hbl, B.notSynchronized, hgv⟩
    obtain ⟨t, a1, o, b1, b2, b3⟩ := K s₁ rfl X₀
    exact ⟨t, o, a1, b1, b2, b3⟩
theorem lw_pre_spec {args : Array Value} {s : State} (h : (Jvm.Cond.and given_1 narrow_1).before args s = true) (hr : rest_1_c.before args s = true) : ∃ (b : Addr) (xs : List Int32), lw_P b xs args s := by
  have hs := flat_of_before _ h
  have hq := flat_of_before _ hr
  have hc : (Cond.count 1).before args s = true := hs _ (by decide +kernel)
  have harr : (Cond.arrayOf (.arg 0) .int).before args s = true := hs _ (by decide +kernel)
  have hle : (Cond.le (.length (.arg 0)) (.int 3072)).before args s = true := hs _ (by decide +kernel)
  have hlen : (Cond.isInt (.length (.arg 0))).before args s = true := hq _ (by decide +kernel)
  have hall : (Cond.all (.arg 0) (.isInt (.elem (.arg 0) (.index 0)))).before args s = true := hq _ (by decide +kernel)
  obtain ⟨b, xs, hb, hx⟩ := State.ints_of_pre rfl harr hlen hall
  have hsm : xs.length < 2 ^ 31 := hx.choose_spec.2.2.2
  have hev : (Term.length (.arg 0)).eval args s none [] s = some (.int xs.length.toInt32) := hx.length_eval hb
  have hv := Cond.le_ints hev (show (Term.int 3072).eval args s none [] s = some (.int 3072) from rfl)
  have hd : xs.length.toInt32 ≤ 3072 := by
    simpa [Cond.before, Cond.holds, hv] using hle
  have hN : xs.length ≤ 3072 := (Int32.ofNat_le_ofNat hsm (by decide)).mp (show Int32.ofNat xs.length ≤ Int32.ofNat 3072 from hd)
  exact ⟨b, xs, Cond.one_arg hc (show args[0]? = some (.ref b) from hb), hx, hN, h⟩
theorem lw_comes (l : Launch) (hflags : l.flags = flags0) : Comes l x (Jvm.Cond.code x code maxLocals ret :: tables_1) room_1 (fun tb e args s => Calls_1 tb e args s ∧ rest_1 tb e args s ∧ Pre_1 tb e args s)
    (fun _ _ args s o t => lw_Q args s o t) := by
  intro p e ha hc hk s m args below hf hfit hheap happ hpre
  obtain ⟨b, xs, hP⟩ := lw_pre_spec hpre.2.2 hpre.2.1
  obtain ⟨k, o, h1, h2, h3, hQ⟩ := lw_walk l hflags b xs p e ha hc hk s m args below hf ((Spec.applies_iff_loose hf).mp happ).1 hP trivial
  exact ⟨k, o, h1, h2, h3, hQ⟩
theorem lw_frame {s t : State} {o : Outcome} {args : Array Value} (h : Framed s o t [] 601024 7293034) :
    Framed s o t (fieldLocs frame_1_writes args s ++ arrayLocs frame_1_arrays args s ++ staticLocs frame_1_statics s) 601024 7293034 := h
theorem lw_limb (L : Cond) (hL : ∀ (args : Array Value) (s t : State), L.after args s (.returned (some (.int 1))) t = true) :
    ArmFor flags0 classFile x code maxLocals ret World_1 tables_1 room_1 Calls_1 rest_1 Pre_1
      (fun tb e a s o t => postC L tb e a s o t ∧ Framed s o t (fieldLocs frame_1_writes a s ++ arrayLocs frame_1_arrays a s ++ staticLocs frame_1_statics s) 601024 7293034) := by
  intro l hflags _ _ p e ha hc hk s m args below hf hfit hheap happ hpre
  obtain ⟨k, o, h1, h2, h3, rfl, hF⟩ := lw_comes l hflags p e ha hc hk s m args below hf hfit hheap happ hpre
  exact ⟨k, _, h1, h2, h3, hL args s _, lw_frame hF⟩
theorem i_vc : Claimed_1_1 ∧ Claimed_1_2 := ⟨lw_limb limb_1_1 (fun args s t => by simp [limb_1_1, Cond.after, Cond.holds, Cond.value]), lw_limb limb_1_2 (fun args s t => Cond.after_iff.mpr (by
  first | (rw [show limb_1_2 = Cond.eq .result (.int 1) from rfl, Cond.eq_ints (x := 1) (y := 1) rfl rfl]; simp; done) | (simp [limb_1_2, Cond.value, Term.eval]; done)))⟩
