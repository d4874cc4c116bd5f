theorem zkv : ∀ y, y < 315 → (zKd y = 0 → zO y < 12 ∧ zH y = []) ∧ (zKd y = 2 → zH y = []) := by
  have h : ((List.range 315).all fun y => decide ((zKd y = 0 → zO y < 12 ∧ zH y = []) ∧ (zKd y = 2 → zH y = []))) = true := by decide +kernel
  intro y hy
  exact of_decide_eq_true (List.all_eq_true.mp h y (List.mem_range.mpr hy))
section FTM
variable {p : Program} {l : Launch} {e : Env} {R : Room} {s : State} {m : MethodId} {args : Array Value} {below : List Frame} {meth : Method} {c : Code} {H : Heap} {locs : List Loc} {cells slots : Nat} {Q : State → Prop}
variable {D : va_G} {cA : Nat → ClassId} {B0 : Nat}
set_option maxHeartbeats 4000000 in
/-- a call of a method of the table, over its run -/
theorem call_run (hl : l.stackTraces = false) {n : Nat} (OK : zOK) (F : FT l D cA B0 n) {y ip v : Nat} (hy : y < 316) (hv : (zK y)[ip]? = some v) (h18 : qop v = 18) {p : Program} {e : Env} {R : Room} {s : State} {m : MethodId} {args : Array Value} {below : List Frame} {meth : Method} {c : Code} {H : Heap} {locs : List Loc} (C : CX p s m meth c y) (hbf : BF D cA B0 s) (hR : R.frames = zFr y ∧ R.locals = zLo y)
    {al : Nat → Nat} {h h1 : HP} {o : OUT} {st : List MV} {lm : Array Slot} (V : HV D cA B0 al h s H locs) (hlm : lm.size = zL y) (S : ∀ w ∈ st, oV (hN h) w) {cells slots : Nat} (hc : cells + (h1.1.2.1 - h.1.2.1) ≤ R.cells ∧ slots + (h1.1.2.2 - h.1.2.2) ≤ R.slots)
    (g1 : zNa (qb v) ≤ st.length) (g2 : zNa (qb v) ≤ zL (qb v)) (g3 : (st.drop (zNa (qb v))).length ≤ 4) (g4 : zrecv (qb v) (st.take (zNa (qb v))).reverse h = true) (g5 : (st.take (zNa (qb v))).all zsm = true)
    (he : ex n (qb v) 0 (zpad (qb v) (st.take (zNa (qb v))).reverse) [] h = some (h1, o)) :
    zPc y (ip + 1) = qpc v + 3 ∧ vx_Run p l e R s m args below meth c H locs cells slots (h1.1.2.1 - h.1.2.1) (h1.1.2.2 - h.1.2.2) (F0 m (qpc v) lm (st.map (iV al))) ((st.drop (zNa (qb v))).map (iV al)) (ZQ D cA B0 al h h1 o (((st.take (zNa (qb v))).reverse.map (iV al))).toArray) (ZX D cA B0 al h h1 o) (zA B0) := by
  obtain ⟨ins, len, hd, hk⟩ := zokI_get (OK.1 y hy ip) hv
  rw [if_pos h18] at hk
  obtain ⟨hnx, rfl, hfr, hlo, hz, ix, ⟨q, hq, hq1, hq2, hq3, hq4⟩, hkind⟩ := zok0_g hk
  refine ⟨hnx, ?_⟩
  obtain ⟨hx, hb, hml, hown, hret, hlk, hin, ht⟩ := C
  have hpc : (F0 m (qpc v) lm (st.map (iV al))).pc = qpc v := rfl
  generalize qa v = av at hk
  generalize qb v = z at *
  generalize qc v = kd at *
  have hM := met_of (al := al) (as := (st.take (zNa z)).reverse) hl OK F hz (by rw [List.all_reverse]; exact g5) (by rw [List.length_reverse, List.length_take]; omega) he
  obtain ⟨k1, k2, k3, k4, k5, k6, k7⟩ := zokM_get (OK.2 z hz)
  have hl0 := (zme_ok q hq)
  rw [hq1, hq2, hq3, hq4] at hl0
  have SF : CallFix p m c (zB y) (zL y) s args zFW (zcn (zO y)) := ⟨hx, hb, hml, hown, fun w hw => hbf.word hw⟩
  have hstk : st.map (iV al) = ((st.take (zNa z)).reverse.map (iV al)).reverse ++ (st.drop (zNa z)).map (iV al) := by
    rw [← List.map_reverse, List.reverse_reverse, ← List.map_append, List.take_append_drop]
  have hP : ∀ U : State, U.heap = H → s.WarmedH U.vm → ZP D cA B0 al h (st.take (zNa z)).reverse (((st.take (zNa z)).reverse.map (iV al)).toArray) U := by
    intro U hU hW
    refine ⟨rfl, BF.moved hbf hW (by rw [hU]; exact V.2.2.1) (by rw [hU]; exact V.2.2.2.1), by rw [hU]; exact V.1, by rw [hU]; exact V.2.1.moved hW.alike, fun w hw => S w (List.mem_of_mem_take (List.mem_reverse.mp hw))⟩
  have hwords : ∀ w ∈ zWs z, ∀ (a' : Array Value) (U : State), s.WarmedH U.vm → w.before a' U = true := fun w hw a' U hW => zw_move hW (List.mem_filter.mp (k3 w hw)).2 (hbf.word (args := args) (k3 w hw))
  have hinit : (Jvm.Cond.initialized (zY z).cls).before args s = true := hbf.word k4
  have hroom : (zRm z (h1.1.2.1 - h.1.2.1) (h1.1.2.2 - h.1.2.2)).frames + 1 ≤ R.frames ∧ 8 + (zL z + 11) + (zRm z (h1.1.2.1 - h.1.2.1) (h1.1.2.2 - h.1.2.2)).locals ≤ R.locals := by
    rw [hR.1, hR.2]
    exact ⟨hfr, hlo⟩
  have hW8 : 2 * (F0 m (qpc v) lm (st.map (iV al))).monitorRoom + (((st.drop (zNa z)).map (iV al)).map fun v => v.category).sum ≤ 8 := lv_room (catS al g3)
  have hlenA : (st.take (zNa z)).length = zNa z := by rw [List.length_take]; omega
  rcases hkind with ⟨rfl, rfl, hkd⟩ | ⟨rfl, rfl, hkd⟩ | ⟨rfl, rfl, hkd⟩ | ⟨rfl, rfl, hkd⟩
  · -- virtual
    obtain ⟨a0, As, hspl⟩ : ∃ a0 As, (st.take (zNa z)).reverse = a0 :: As := by
      cases hxx : (st.take (zNa z)).reverse with
      | nil =>
        have := congrArg List.length hxx
        rw [List.length_reverse, hlenA] at this
        simp at this
        rcases k1.2.2.2.2.2.2.1 with q | q <;> omega
      | cons a r => exact ⟨a, r, rfl⟩
    rw [hspl] at g4 hstk hP hM ⊢
    have hAs : As.length = zNa z - 1 := by
      have := congrArg List.length hspl
      rw [List.length_reverse, hlenA] at this
      simp at this
      omega
    obtain ⟨i, rfl, htag⟩ : ∃ i, a0 = .inr (.inl (some i)) ∧ (hK h i).1 = 10 + zO z := by
      unfold zrecv at g4
      rw [hkd] at g4
      rcases a0 with x | ⟨_ | i⟩ | x
      · simp at g4
      · simp at g4
      · exact ⟨i, rfl, by simpa using g4⟩
      · simp at g4
    have hi : i < hN h := S (.inr (.inl (some i))) (List.mem_of_mem_take (List.mem_reverse.mp (by rw [hspl]; exact List.mem_cons_self)))
    obtain ⟨q0, hL, hw⟩ := iW_at (cA := cA) (al := al) (h := h) hi (by rw [htag]; simp [reg])
    rw [iE_obj htag] at hw
    obtain ⟨m1, m2⟩ := k5 hkd
    obtain ⟨hOz, hH⟩ := (zkv z hz).1 hkd
    have hrecv := va_recv hbf.1 V.1.1 (zcl_at (zO z) hOz) hw
    rw [← k1.1] at hrecv
    have hn1 : ∀ sig, parseMethodDescriptor (zY z).desc = some sig → zNa z - 1 = sig.parameters.length := by
      intro sig hsig
      rw [hsig, if_neg (by omega)] at k2
      exact (Option.some.inj k2).symm
    rcases zWs_one z with ⟨-, hWs⟩ | ⟨hH2, hWs⟩
    · rw [hWs] at hM hwords k3
      exact vx_runV (C := (zY z).cls) (As := As.map (iV al)) (n := zNa z - 1) SF hM ⟨⟨rfl, rfl, hroom.1, hroom.2, hwords, List.mem_cons_self, hbf.word (k3 _ List.mem_cons_self), hinit, ⟨k1.2.2.1, k1.2.2.2.1⟩, hn1, hbf.word (hl0.2 (by decide))⟩, hbf.word m1, hbf.word m2⟩
        ⟨ZP.blind, hrecv, fun U hU hW => hP U hU hW⟩ rfl (by rw [List.length_map, hAs]) hlm (by rw [hstk]; simp [iV]) hW8 hd hc
    · exact absurd hH hH2
  · -- static
    have m1 := k6 hkd
    have hn1 : ∀ sig, parseMethodDescriptor (zY z).desc = some sig → zNa z = sig.parameters.length := by
      intro sig hsig
      rw [hsig, if_pos hkd] at k2
      exact (Option.some.inj k2).symm
    have hlen2 : (((st.take (zNa z)).reverse.map (iV al))).length = zNa z := by rw [List.length_map, List.length_reverse, hlenA]
    rcases zWs_one z with ⟨hH, hWs⟩ | ⟨hH, hWs⟩
    · rw [hWs] at hM hwords k3
      exact vx_runS (As := (st.take (zNa z)).reverse.map (iV al)) (n := zNa z) SF hM ⟨⟨rfl, rfl, hroom.1, hroom.2, hwords, List.mem_cons_self, hbf.word (k3 _ List.mem_cons_self), hinit, ⟨k1.2.2.1, k1.2.2.2.1⟩, hn1, hbf.word (hl0.2 (by decide))⟩, hbf.word m1⟩
        ⟨ZP.blind, hP⟩ rfl hlen2 hlm hstk hW8 hd hc
    · rw [hWs] at hM hwords k3
      exact vx_runSX (hh := zH z) (As := (st.take (zNa z)).reverse.map (iV al)) (n := zNa z) SF hM ⟨⟨rfl, rfl, hroom.1, hroom.2, hwords, List.mem_cons_self⟩, hbf.word (k3 _ List.mem_cons_self), hinit, ⟨k1.2.2.1, k1.2.2.2.1⟩, hn1, hbf.word (hl0.2 (by decide)), hbf.word m1⟩
        ⟨ZP.blind, hP⟩ rfl hlen2 hlm hstk hW8 hd hc
  all_goals
    obtain ⟨a0, As, hspl⟩ : ∃ a0 As, (st.take (zNa z)).reverse = a0 :: As := by
      cases hxx : (st.take (zNa z)).reverse with
      | nil =>
        have := congrArg List.length hxx
        rw [List.length_reverse, hlenA] at this
        simp at this
        rcases k1.2.2.2.2.2.2.1 with q | q <;> omega
      | cons a r => exact ⟨a, r, rfl⟩
    rw [hspl] at g4 hstk hP hM ⊢
    have hAs : As.length = zNa z - 1 := by
      have := congrArg List.length hspl
      rw [List.length_reverse, hlenA] at this
      simp at this
      omega
    obtain ⟨i, rfl⟩ : ∃ i, a0 = .inr (.inl (some i)) := by
      unfold zrecv at g4
      rw [hkd] at g4
      rcases a0 with x | ⟨_ | i⟩ | x
      · simp at g4
      · simp at g4
      · exact ⟨i, rfl⟩
      · simp at g4
    have hH := (zkv z hz).2 hkd
    obtain ⟨m1, m2, m3⟩ := k7 hkd
    have hn1 : ∀ sig, parseMethodDescriptor (zY z).desc = some sig → zNa z - 1 = sig.parameters.length := by
      intro sig hsig
      rw [hsig, if_neg (by omega)] at k2
      exact (Option.some.inj k2).symm
    rcases zWs_one z with ⟨-, hWs⟩ | ⟨hH2, hWs⟩
  · rw [hWs, m3] at hM hwords k3
    exact vx_runI (As := As.map (iV al)) (n := zNa z - 1) SF hM ⟨⟨rfl, rfl, hroom.1, hroom.2, hwords, List.mem_cons_self, hbf.word (k3 _ List.mem_cons_self), hinit, ⟨k1.2.2.1, k1.2.2.2.1⟩, hn1, hbf.word (hl0.2 (by decide))⟩, m2, hbf.word m1⟩
      ⟨ZP.blind, fun U hU hW => hP U hU hW⟩ rfl (by rw [List.length_map, hAs]) hlm (by rw [hstk]; simp [iV]) hW8 hd hc
  · exact absurd hH hH2
  · rw [hWs, m3] at hM hwords k3
    exact vx_runIN (host := "PackSpring") (As := As.map (iV al)) (n := zNa z - 1) SF hM ⟨⟨⟨rfl, rfl, hroom.1, hroom.2, hwords, List.mem_cons_self⟩, hbf.word (k3 _ List.mem_cons_self), hinit, ⟨k1.2.2.1, k1.2.2.2.1⟩, hn1, hbf.word (hl0.1 rfl)⟩, m2, hbf.word m1⟩
      ⟨ZP.blind, fun U hU hW => hP U hU hW⟩ rfl (by rw [List.length_map, hAs]) hlm (by rw [hstk]; simp [iV]) hW8 hd hc
  · exact absurd hH hH2
end FTM
