/-! ===== locals, stack, arithmetic, jumps: a row of the small machine is a row of the real one ===== -/
theorem zFW_of {w : Jvm.Cond} {i : Nat} (h : lw_tbl[i]? = some w) (hg : zgM w = true) : w ∈ zFW := List.mem_filter.mpr ⟨List.mem_of_getElem? h, hg⟩
theorem BF.word {D : va_G} {cA : Nat → ClassId} {B0 : Nat} {s : State} {args : Array Value} {w : Jvm.Cond} (hb : BF D cA B0 s) (hw : w ∈ zFW) : w.before args s = true :=
  zw_move (State.WarmedH.refl s) (List.mem_filter.mp hw).2 (hb.2.1 w hw)
theorem zob_ok : ∀ q ∈ zob, Jvm.Cond.methodLink (zcn q.1) q.2.1 objectInit ∈ zFW := by
  have h : (zob.all fun q => zw q.2.2 (.methodLink (zcn q.1) q.2.1 objectInit)) = true := by decide +kernel
  intro q hq
  have h1 := List.all_eq_true.mp h q hq
  exact zFW_of (of_decide_eq_true h1) rfl
theorem zpo_ok : Jvm.Cond.instanceMethod objectInit ∈ zFW ∧ Jvm.Cond.code objectInit ⟨#[0xb1]⟩ 1 none ∈ zFW :=
  ⟨zFW_of (i := zpo.1) (by decide +kernel) rfl, zFW_of (i := zpo.2) (by decide +kernel) rfl⟩
theorem zco_ok : ∀ q ∈ zco, Jvm.Cond.constant (zcn q.1) q.2.1 (Int32.ofInt q.2.2.1) ∈ zFW := by
  have h : (zco.all fun q => zw q.2.2.2 (.constant (zcn q.1) q.2.1 (Int32.ofInt q.2.2.1))) = true := by decide +kernel
  intro q hq
  have h1 := List.all_eq_true.mp h q hq
  exact zFW_of (of_decide_eq_true h1) rfl
theorem i32i {x y : Int} (hx : rgI x) (hy : rgI y) : (Int32.ofInt x = Int32.ofInt y ↔ x = y) ∧ (Int32.ofInt x < Int32.ofInt y ↔ x < y) ∧ (Int32.ofInt x ≤ Int32.ofInt y ↔ x ≤ y) := by
  have e1 : (Int32.ofInt x).toInt = x := Int32.toInt_ofInt_of_le (by simpa using hx.1) (by simpa using hx.2)
  have e2 : (Int32.ofInt y).toInt = y := Int32.toInt_ofInt_of_le (by simpa using hy.1) (by simpa using hy.2)
  refine ⟨⟨fun h => ?_, fun h => by rw [h]⟩, ?_, ?_⟩
  · rw [← e1, ← e2, h]
  · rw [Int32.lt_iff_toInt_lt, e1, e2]
  · rw [Int32.le_iff_toInt_le, e1, e2]
theorem i32t {x : Int} (hx : rgI x) : (Int32.ofInt x).toInt = x := Int32.toInt_ofInt_of_le (by simpa using hx.1) (by simpa using hx.2)
theorem i64l {x : Int} (hx : rgI x) : (Int32.ofInt x).toInt64 = Int64.ofInt x := by
  apply Int64.toInt_inj.mp
  rw [Int32.toInt_toInt64, i32t hx, Int64.toInt_ofInt_of_le (by have := hx.1; omega) (by have := hx.2; omega)]
theorem i64t {x : Int} (hx : rgI x) : (Int64.ofInt x).toInt = x := Int64.toInt_ofInt_of_le (by have := hx.1; omega) (by have := hx.2; omega)
theorem rg_i32 (x : Int32) : rgI x.toInt := ⟨by simpa using Int32.le_toInt x, by simpa using Int32.toInt_lt x⟩
theorem catS (al : Nat → Nat) {st : List MV} (h : st.length ≤ 4) : ((st.map (iV al)).map fun v => v.category).sum ≤ 8 := by
  have : ∀ st : List MV, ((st.map (iV al)).map fun v => v.category).sum ≤ 2 * st.length := by
    intro st
    induction st with
    | nil => simp
    | cons a r ih =>
      simp only [List.map_cons, List.sum_cons, List.length_cons]
      rcases lv_cat (iV al a) with q | q <;> omega
  have := this st
  omega
section S1
variable {p : Program} {l : Launch} {e : Env} {R : Room} {s : State} {m : MethodId} {args : Array Value} {below : List Frame} {meth : Method} {c : Code} {H : Heap} {locs : List Loc} {cells slots : Nat} {Q : State → Prop}
variable {D : va_G} {cA : Nat → ClassId} {B0 : Nat} {al : Nat → Nat} {h h1 : HP} {ls ls1 st st1 : List MV} {lm : Array Slot} {y v ip ip1 : Nat}
set_option maxHeartbeats 4000000 in
theorem sd1 (C : CX p s m meth c y) (hbf : BF D cA B0 s) (hv : (zK y)[ip]? = some v) (hok : zokI y ip = true) (hf : zfam (qop v) = 1) (h18 : qop v ≠ 18) (hz : zs1 (qop v) (qa v) (qb v) ip ls h st = some (.inl (ip1, ls1, st1, h1))) (hR : R.frames = zFr y ∧ R.locals = zLo y)
    (F : FL al (hN h) ls lm (zL y)) (S : ∀ w ∈ st, oV (hN h) w)
    (k : ∀ lm1, h1 = h → FL al (hN h) ls1 lm1 (zL y) → (∀ w ∈ st1, oV (hN h) w) → W p l e R s m args below meth c H locs cells slots Q (F0 m (zPc y ip1) lm1 (st1.map (iV al)))) :
    W p l e R s m args below meth c H locs cells slots Q (F0 m (qpc v) lm (st.map (iV al))) := by
  obtain ⟨ins, len, hd, hk⟩ := zokI_get hok hv
  rw [if_neg h18, hf] at hk
  try dsimp only at hk
  obtain ⟨hx, hb, hml, hown, hr, hlk, hin, ht⟩ := C
  generalize qop v = op at hz hk
  generalize qa v = a at hz hk
  generalize qb v = b at hz hk
  generalize qpc v = pc at hk hd ⊢
  unfold zs1 zgo at hz
  split at hz
  · -- const
    obtain ⟨h0, hrg, hk⟩ := zok1_0 hk
    cases hz
    have K := k lm rfl F (fun w hw => by rcases List.mem_cons.mp hw with rfl | hw; exact hrg; exact S w hw)
    rw [h0] at K
    rcases hk with ⟨n, rfl, hn, rfl⟩ | ⟨n, rfl, hn, rfl⟩ | ⟨n, rfl, hn, rfl⟩
    · exact lv_iconst hx hb hd hn K
    · exact lv_bipush hx hb hd hn K
    · exact lv_sipush hx hb hd hn K
  · obtain ⟨h0, hrg, i, hi, q, hq, hq1, hq2, hq3⟩ := zok1_41 hk
    cases hz
    have K := k lm rfl F (fun w hw => by rcases List.mem_cons.mp hw with rfl | hw; exact hrg; exact S w hw)
    rw [h0] at K
    have hw := hbf.word (args := args) (zco_ok q hq)
    rw [hq1, hq2, hq3] at hw
    rcases hi with ⟨rfl, rfl⟩ | ⟨rfl, rfl⟩
    · exact lv_ldc hx hb hown hw hd K
    · exact lv_ldcw hx hb hown hw hd K
  · obtain ⟨h0, hrg, rfl, n, rfl, hn⟩ := zok1_38 hk
    cases hz
    have K := k lm rfl F (fun w hw => by rcases List.mem_cons.mp hw with rfl | hw; exact hrg; exact S w hw)
    rw [h0] at K
    exact lv_lconst hx hb hd hn K
  · obtain ⟨h0, rfl, rfl⟩ := zok1_33 hk
    cases hz
    have K := k lm rfl F (fun w hw => by rcases List.mem_cons.mp hw with rfl | hw; trivial; exact S w hw)
    rw [h0] at K
    exact lv_null hx hb hd K
  · obtain ⟨h0, hk⟩ := zok1_1 hk
    split at hz
    · rename_i x hx1
      cases hz
      have K := k lm rfl F (fun w hw => by rcases List.mem_cons.mp hw with rfl | hw; exact F.2.1 _ (List.mem_of_getElem? hx1); exact S w hw)
      rw [h0] at K
      have hl := F.at hx1 (fun x h => by cases h)
      rcases hk with ⟨k, rfl, rfl, rfl⟩ | ⟨rfl, rfl⟩
      · exact lv_iload_n hx hb hd rfl hl K
      · exact lv_iload hx hb hd hl K
    · cases hz
  · obtain ⟨h0, hk⟩ := zok1_42 hk
    split at hz
    · rename_i r hx1
      cases hz
      have K := k lm rfl F (fun w hw => by rcases List.mem_cons.mp hw with rfl | hw; exact F.2.1 _ (List.mem_of_getElem? hx1); exact S w hw)
      rw [h0] at K
      have hl := F.at hx1 (fun x h => by cases h)
      cases r with
      | none =>
        rcases hk with ⟨k, rfl, rfl, rfl⟩ | ⟨rfl, rfl⟩
        · exact lv_aload_nN hx hb hd rfl hl K
        · exact lv_aloadN hx hb hd hl K
      | some r =>
        rcases hk with ⟨k, rfl, rfl, rfl⟩ | ⟨rfl, rfl⟩
        · exact lv_aload_n hx hb hd rfl hl K
        · exact lv_aload hx hb hd hl K
    · cases hz
  · rename_i x st
    obtain ⟨h0, hk⟩ := zok1_2 hk
    split at hz
    · rename_i hlt
      cases hz
      obtain ⟨lv, h2, h3, -, h4⟩ := F.store (v := .inl x) (S _ List.mem_cons_self) (fun x h => by cases h) hlt
      have K := fun lm1 hl => k lm1 rfl (h4 lm1 hl) (fun w hw => S w (List.mem_cons_of_mem _ hw))
      rw [h0] at K
      rcases hk with ⟨k, rfl, rfl, rfl⟩ | ⟨rfl, rfl⟩
      · exact lv_istore_n hx hb hd rfl h2 h3 rfl K
      · exact lv_istore hx hb hd h2 h3 rfl K
    · cases hz
  · rename_i r st
    obtain ⟨h0, hk⟩ := zok1_43 hk
    split at hz
    · rename_i hlt
      cases hz
      obtain ⟨lv, h2, h3, -, h4⟩ := F.store (v := .inr (.inl r)) (S _ List.mem_cons_self) (fun x h => by cases h) hlt
      have K := fun lm1 hl => k lm1 rfl (h4 lm1 hl) (fun w hw => S w (List.mem_cons_of_mem _ hw))
      rw [h0] at K
      cases r with
      | none =>
        rcases hk with ⟨k, rfl, rfl, rfl⟩ | ⟨rfl, rfl⟩
        · exact lv_astore_nN hx hb hd rfl h2 h3 rfl K
        · exact lv_astoreN hx hb hd h2 h3 rfl K
      | some r =>
        rcases hk with ⟨k, rfl, rfl, rfl⟩ | ⟨rfl, rfl⟩
        · exact lv_astore_n hx hb hd rfl h2 h3 rfl K
        · exact lv_astore hx hb hd h2 h3 rfl K
    · cases hz
  · obtain ⟨h0, rfl, rfl⟩ := zok1_3 hk
    split at hz
    · rename_i x hx1
      split at hz
      · rename_i hrg
        cases hz
        have hlt := (List.getElem?_eq_some_iff.mp hx1).1
        obtain ⟨lv, h2, h3, h5, h4⟩ := F.store (v := .inl (x + a)) hrg (fun x h => by cases h) hlt
        have K := fun lm1 hl => k lm1 rfl (h4 lm1 hl) S
        rw [h0] at K
        obtain ⟨k0, hk0⟩ := List.getElem?_of_mem (h5 b _ hx1 (fun x h => by cases h))
        exact lv_iinc (v := Int32.ofInt (x + a)) hx hb hd h2 hk0 (Int32.ofInt_add ..).symm h3 rfl K
      · cases hz
    · cases hz
  · rename_i x st
    obtain ⟨h0, rfl, rfl⟩ := zok1_27 hk
    cases hz
    have K := k lm rfl F (fun w hw => by rcases List.mem_cons.mp hw with rfl | hw; exact S _ List.mem_cons_self; exact S w hw)
    rw [h0] at K
    exact lv_dup hx hb hd rfl K
  · rename_i r st
    obtain ⟨h0, rfl, rfl⟩ := zok1_27 hk
    cases hz
    have K := k lm rfl F (fun w hw => by rcases List.mem_cons.mp hw with rfl | hw; exact S _ List.mem_cons_self; exact S w hw)
    rw [h0] at K
    exact lv_dup hx hb hd (iV_cat al (fun x h => by cases h)) K
  · rename_i x r st
    obtain ⟨h0, rfl, rfl⟩ := zok1_28 hk
    cases hz
    have K := k lm rfl F (fun w hw => by
      rcases List.mem_cons.mp hw with rfl | hw
      · exact S _ List.mem_cons_self
      · rcases List.mem_cons.mp hw with rfl | hw
        · exact S _ (List.mem_cons_of_mem _ List.mem_cons_self)
        · exact S w hw)
    rw [h0] at K
    exact lv_dup2_11 hx hb hd rfl (iV_cat al (fun x h => by cases h)) K
  · rename_i x st
    obtain ⟨h0, rfl, rfl⟩ := zok1_29 hk
    cases hz
    have K := k lm rfl F (fun w hw => S w (List.mem_cons_of_mem _ hw))
    rw [h0] at K
    exact lv_pop hx hb hd rfl K
  · rename_i r st
    obtain ⟨h0, rfl, rfl⟩ := zok1_29 hk
    cases hz
    have K := k lm rfl F (fun w hw => S w (List.mem_cons_of_mem _ hw))
    rw [h0] at K
    exact lv_pop hx hb hd (iV_cat al (fun x h => by cases h)) K
  · rename_i x st
    obtain ⟨h0, rfl, rfl⟩ := zok1_36 hk
    cases hz
    have hx0 : rgI x := S _ List.mem_cons_self
    have K := k lm rfl F (fun w hw => by rcases List.mem_cons.mp hw with rfl | hw; exact hx0; exact S w (List.mem_cons_of_mem _ hw))
    rw [h0] at K
    exact lv_i2l hx hb hd (i64l hx0) K
  · rename_i y1 x1 st
    obtain ⟨h0, rfl, rfl⟩ := zok1_37 hk
    cases hz
    have hy1 : rgI y1 := S _ List.mem_cons_self
    have hx1 : rgI x1 := S _ (List.mem_cons_of_mem _ List.mem_cons_self)
    have K := k lm rfl F (fun w hw => by
      rcases List.mem_cons.mp hw with rfl | hw
      · show rgI _
        split
        · exact ⟨by decide, by decide⟩
        · split
          · exact ⟨by decide, by decide⟩
          · exact ⟨by decide, by decide⟩
      · exact S w (List.mem_cons_of_mem _ (List.mem_cons_of_mem _ hw)))
    rw [h0] at K
    refine W.lcmp hx hb hd ?_
    have e : lg_cmp (Int64.ofInt x1) (Int64.ofInt y1) = Int32.ofInt (if x1 < y1 then -1 else if x1 = y1 then 0 else 1) := by
      unfold lg_cmp
      have e1 : Int64.ofInt y1 < Int64.ofInt x1 ↔ y1 < x1 := by rw [Int64.lt_iff_toInt_lt, i64t hx1, i64t hy1]
      have e2 : Int64.ofInt x1 = Int64.ofInt y1 ↔ x1 = y1 := by rw [← Int64.toInt_inj, i64t hx1, i64t hy1]
      simp only [gt_iff_lt, e1, e2]
      rcases Int.lt_trichotomy x1 y1 with q | q | q
      · rw [if_neg (by omega), if_neg (by omega), if_pos q]
        rfl
      · rw [if_neg (by omega), if_pos q, if_neg (by omega), if_pos q]
        rfl
      · rw [if_pos q, if_neg (by omega), if_neg (by omega)]
        rfl
    rw [e]
    exact K
  · rename_i i st
    split at hz
    · rename_i hl4
      obtain ⟨h0, rfl, hf1, hl1, ix, rfl, q, hq, hq1, hq2⟩ := zok1_40 hk
      cases hz
      have K := k lm rfl F (fun w hw => S w (List.mem_cons_of_mem _ hw))
      rw [h0] at K
      have hw := hbf.word (args := args) (zob_ok q hq)
      rw [hq1, hq2] at hw
      refine W.objInit hx hb hown hw (hbf.word zpo_ok.1) (hbf.word zpo_ok.2) rfl (F.size.trans hml.symm) rfl hd (by rw [hR.1]; exact hf1) ?_ K
      have h8 := lv_room (m := m) (pc := pc) (ls := lm) (rest := []) (catS al hl4)
      rw [hR.2]
      change 2 * (F0 m pc lm []).monitorRoom + _ + 12 ≤ _
      omega
    · cases hz
  · cases hz
end S1
