/-! ===== jumps and arithmetic ===== -/
section OKS2
variable {y op b c nx pc len : Nat} {ins : Instr}
theorem zok2_12 (h : zok2 y 12 b c nx pc ins len = true) : ∃ k o, ins = .ifCond k o ∧ zcnd k = b ∧ (pc : Int) + o = (zPc y c : Int) ∧ len = 3 ∧ nx = pc + 3 := by
  unfold zok2 at h
  split at h <;> first | (rename_i q1 q2; exact absurd q1 (by decide)) | simp_all
theorem zok2_13 (h : zok2 y 13 b c nx pc ins len = true) : ∃ k o, ins = .if_icmp k o ∧ zcnd k = b ∧ (pc : Int) + o = (zPc y c : Int) ∧ len = 3 ∧ nx = pc + 3 := by
  unfold zok2 at h
  split at h <;> first | (rename_i q1 q2; exact absurd q1 (by decide)) | simp_all
theorem zok2_14 (h : zok2 y 14 b c nx pc ins len = true) : ∃ o, ins = .goto o ∧ (pc : Int) + o = (zPc y c : Int) ∧ len = 3 := by
  unfold zok2 at h
  split at h <;> first | (rename_i q1 q2; exact absurd q1 (by decide)) | simp_all
theorem zok2_15 (h : zok2 y 15 b c nx pc ins len = true) : ∃ (d lo hi : Int) (os : Array Int), ins = .tableswitch d lo hi os ∧ (pc : Int) + d = (zPc y c : Int) ∧ lo = 0 ∧ hi + 1 = ((zsw.getD b []).length : Int) ∧ os.toList.map (fun o => (pc : Int) + o) = (zsw.getD b []).map (fun t => (zPc y t : Int)) := by
  unfold zok2 at h
  split at h <;> first | (rename_i q1 q2; exact absurd q1 (by decide)) | (simp at h <;> exact ⟨_, _, _, _, rfl, h.1, h.2.1, h.2.2.1, h.2.2.2⟩) | simp_all
theorem zok2_34 (h : zok2 y 34 b c nx pc ins len = true) : ∃ o, ins = .ifnull o ∧ (pc : Int) + o = (zPc y c : Int) ∧ len = 3 ∧ nx = pc + 3 := by
  unfold zok2 at h
  split at h <;> first | (rename_i q1 q2; exact absurd q1 (by decide)) | simp_all
theorem zok2_35 (h : zok2 y 35 b c nx pc ins len = true) : ∃ o, ins = .ifnonnull o ∧ (pc : Int) + o = (zPc y c : Int) ∧ len = 3 ∧ nx = pc + 3 := by
  unfold zok2 at h
  split at h <;> first | (rename_i q1 q2; exact absurd q1 (by decide)) | simp_all
theorem zok5_g (h : zok5 op nx pc ins len = true) : nx = pc + 1 ∧ len = 1 ∧ (op = 4 ∧ ins = .iadd ∨ op = 5 ∧ ins = .isub ∨ op = 6 ∧ ins = .imul ∨ op = 7 ∧ ins = .idiv ∨ op = 8 ∧ ins = .irem ∨ op = 9 ∧ ins = .ishr ∨ op = 10 ∧ ins = .iand ∨ op = 11 ∧ ins = .ior) := by
  unfold zok5 at h
  simp only [Bool.and_eq_true, decide_eq_true_eq] at h
  obtain ⟨⟨h0, h2⟩, h1⟩ := h
  refine ⟨h0, h2, ?_⟩
  split at h1 <;> simp_all
end OKS2
theorem zs_l : ∀ n, n < 32 → ((nI n &&& 31).toBitVec.smod 32).toNat = n := by decide +kernel
section S2
variable {p : Program} {l : Launch} {e : Env} {R : Room} {s : State} {m : MethodId} {args : Array Value} {below : List Frame} {meth : Method} {c : Code} {H : Heap} {locs : List Loc} {cells slots : Nat} {Q : State → Prop}
variable {D : va_G} {cA : Nat → ClassId} {B0 : Nat} {al : Nat → Nat} {h h1 : HP} {ls ls1 st st1 : List MV} {lm : Array Slot} {y v ip ip1 : Nat}
theorem rg0 : rgI 0 := ⟨by decide, by decide⟩
theorem i32z : Int32.ofInt 0 = 0 := rfl
set_option maxHeartbeats 4000000 in
theorem sd2 (C : CX p s m meth c y) (hv : (zK y)[ip]? = some v) (hok : zokI y ip = true) (hf : zfam (qop v) = 2) (h18 : qop v ≠ 18) (hz : zs2 (qop v) (qb v) (qc v) ip ls h st = some (.inl (ip1, ls1, st1, h1)))
    (S : ∀ w ∈ st, oV (hN h) w)
    (k : h1 = h → ls1 = ls → (∀ w ∈ st1, oV (hN h) w) → W p l e R s m args below meth c H locs cells slots Q (F0 m (zPc y ip1) lm (st1.map (iV al)))) :
    W p l e R s m args below meth c H locs cells slots Q (F0 m (qpc v) lm (st.map (iV al))) := by
  obtain ⟨ins, len, hd, hk⟩ := zokI_get hok hv
  rw [if_neg h18, hf] at hk
  try dsimp only at hk
  obtain ⟨hx, hb, hml, hown, hr, hlk, hin, ht⟩ := C
  generalize qop v = op at hz hk
  generalize qb v = b at hz hk
  generalize qc v = cc at hz hk
  generalize qpc v = pc at hk hd ⊢
  unfold zs2 zgo at hz
  split at hz
  · rename_i x st
    obtain ⟨kc, o, rfl, hb2, ho, rfl, hnx⟩ := zok2_12 hk
    have hx0 : rgI x := S _ List.mem_cons_self
    obtain ⟨i1, i2, i3⟩ := i32i hx0 rg0
    obtain ⟨j1, j2, j3⟩ := i32i rg0 hx0
    rw [i32z] at i1 i2 i3 j1 j2 j3
    have e1 : ip1 = (if zcond b x 0 = true then cc else ip + 1) := by cases hz; rfl
    have K : W p l e R s m args below meth c H locs cells slots Q (F0 m (zPc y ip1) lm (st.map (iV al))) := by cases hz; exact k rfl rfl (fun w hw => S w (List.mem_cons_of_mem _ hw))
    rw [e1] at K
    subst hb2
    cases kc
    · refine lv_if_eq hx hb hd ho (fun q => ?_) (fun q => ?_)
      · rw [if_pos (by simpa [zcond, zcnd] using i1.mp q)] at K; exact K
      · rw [if_neg (by simpa [zcond, zcnd] using fun z => q (i1.mpr z)), hnx] at K; exact K
    · refine lv_if_ne hx hb hd ho (fun q => ?_) (fun q => ?_)
      · rw [if_pos (by simpa [zcond, zcnd] using fun z => q (i1.mpr z))] at K; exact K
      · rw [if_neg (by simpa [zcond, zcnd] using i1.mp q), hnx] at K; exact K
    · refine lv_if_lt hx hb hd ho (fun q => ?_) (fun q => ?_)
      · rw [if_pos (by simpa [zcond, zcnd] using i2.mp q)] at K; exact K
      · rw [if_neg (by have := fun z => q (i2.mpr z); simp only [zcond, zcnd, decide_eq_true_eq]; exact this), hnx] at K; exact K
    · refine lv_if_ge hx hb hd ho (fun q => ?_) (fun q => ?_)
      · rw [if_pos (by simpa [zcond, zcnd] using j3.mp q)] at K; exact K
      · rw [if_neg (by have := fun z => q (j3.mpr z); simp only [zcond, zcnd, decide_eq_true_eq]; exact this), hnx] at K; exact K
    · refine lv_if_gt hx hb hd ho (fun q => ?_) (fun q => ?_)
      · rw [if_pos (by simpa [zcond, zcnd] using j2.mp q)] at K; exact K
      · rw [if_neg (by have := fun z => q (j2.mpr z); simp only [zcond, zcnd, decide_eq_true_eq]; exact this), hnx] at K; exact K
    · refine lv_if_le hx hb hd ho (fun q => ?_) (fun q => ?_)
      · rw [if_pos (by simpa [zcond, zcnd] using i3.mp q)] at K; exact K
      · rw [if_neg (by have := fun z => q (i3.mpr z); simp only [zcond, zcnd, decide_eq_true_eq]; exact this), hnx] at K; exact K
  · rename_i y1 x st
    obtain ⟨kc, o, rfl, hb2, ho, rfl, hnx⟩ := zok2_13 hk
    have hy0 : rgI y1 := S _ List.mem_cons_self
    have hx0 : rgI x := S _ (List.mem_cons_of_mem _ List.mem_cons_self)
    obtain ⟨i1, i2, i3⟩ := i32i hx0 hy0
    obtain ⟨j1, j2, j3⟩ := i32i hy0 hx0
    have e1 : ip1 = (if zcond b x y1 = true then cc else ip + 1) := by cases hz; rfl
    have K : W p l e R s m args below meth c H locs cells slots Q (F0 m (zPc y ip1) lm (st.map (iV al))) := by cases hz; exact k rfl rfl (fun w hw => S w (List.mem_cons_of_mem _ (List.mem_cons_of_mem _ hw)))
    rw [e1] at K
    subst hb2
    cases kc
    · refine lv_icmp_eq hx hb hd ho (fun q => ?_) (fun q => ?_)
      · rw [if_pos (by simpa [zcond, zcnd] using i1.mp q)] at K; exact K
      · rw [if_neg (by simpa [zcond, zcnd] using fun z => q (i1.mpr z)), hnx] at K; exact K
    · refine lv_icmp_ne hx hb hd ho (fun q => ?_) (fun q => ?_)
      · rw [if_pos (by simpa [zcond, zcnd] using fun z => q (i1.mpr z))] at K; exact K
      · rw [if_neg (by simpa [zcond, zcnd] using i1.mp q), hnx] at K; exact K
    · refine lv_icmp_lt hx hb hd ho (fun q => ?_) (fun q => ?_)
      · rw [if_pos (by simpa [zcond, zcnd] using i2.mp q)] at K; exact K
      · rw [if_neg (by have := fun z => q (i2.mpr z); simp only [zcond, zcnd, decide_eq_true_eq]; exact this), hnx] at K; exact K
    · refine lv_icmp_ge hx hb hd ho (fun q => ?_) (fun q => ?_)
      · rw [if_pos (by simpa [zcond, zcnd] using j3.mp q)] at K; exact K
      · rw [if_neg (by have := fun z => q (j3.mpr z); simp only [zcond, zcnd, decide_eq_true_eq]; exact this), hnx] at K; exact K
    · refine lv_icmp_gt hx hb hd ho (fun q => ?_) (fun q => ?_)
      · rw [if_pos (by simpa [zcond, zcnd] using j2.mp q)] at K; exact K
      · rw [if_neg (by have := fun z => q (j2.mpr z); simp only [zcond, zcnd, decide_eq_true_eq]; exact this), hnx] at K; exact K
    · refine lv_icmp_le hx hb hd ho (fun q => ?_) (fun q => ?_)
      · rw [if_pos (by simpa [zcond, zcnd] using i3.mp q)] at K; exact K
      · rw [if_neg (by have := fun z => q (i3.mpr z); simp only [zcond, zcnd, decide_eq_true_eq]; exact this), hnx] at K; exact K
  · obtain ⟨o, rfl, ho, rfl⟩ := zok2_14 hk
    cases hz
    exact lv_goto hx hb hd ho (k rfl rfl S)
  · rename_i x st
    obtain ⟨dd, lo, hi, os, rfl, ho, rfl, hhi, hos⟩ := zok2_15 hk
    have hx0 : rgI x := S _ List.mem_cons_self
    have e1 : ip1 = (if 0 ≤ x ∧ x < ((zsw.getD b []).length : Int) then (zsw.getD b []).getD x.toNat 0 else cc) := by cases hz; rfl
    have K : W p l e R s m args below meth c H locs cells slots Q (F0 m (zPc y ip1) lm (st.map (iV al))) := by cases hz; exact k rfl rfl (fun w hw => S w (List.mem_cons_of_mem _ hw))
    rw [e1] at K
    by_cases q : 0 ≤ x ∧ x < ((zsw.getD b []).length : Int)
    · rw [if_pos q] at K
      obtain ⟨n, rfl⟩ := Int.eq_ofNat_of_zero_le q.1
      have hn : n < (zsw.getD b []).length := by omega
      have hnl : n < os.toList.length := by
        have := congrArg List.length hos
        simp only [List.length_map] at this
        omega
      have h5 : (pc : Int) + os.toList[n] = (zPc y ((zsw.getD b [])[n]) : Int) := by
        have := congrArg (fun z => z[n]?) hos
        simp only [List.getElem?_map, List.getElem?_eq_getElem hnl, List.getElem?_eq_getElem hn, Option.map_some, Option.some.injEq] at this
        exact this
      have h6 : (zsw.getD b []).getD (Int.toNat (n : Int)) 0 = (zsw.getD b [])[n] := by
        rw [Int.toNat_natCast, List.getD_eq_getElem?_getD, List.getElem?_eq_getElem hn]
        rfl
      rw [h6] at K
      have hxt : (Int32.ofInt (n : Int)).toInt = (n : Int) := i32t hx0
      refine lv_tableIn hx hb hd (off := os.toList[n]) (by rw [hxt]; omega) (by rw [hxt]; omega) ?_ h5 K
      rw [hxt]
      have e7 : ((n : Int) - 0).toNat = n := by omega
      rw [e7, ← Array.getElem?_toList, List.getElem?_eq_getElem hnl]
    · rw [if_neg q] at K
      have hxt : (Int32.ofInt x).toInt = x := i32t hx0
      exact lv_tableOut hx hb hd (by rw [hxt]; omega) ho K
  · rename_i r st
    obtain ⟨o, rfl, ho, rfl, hnx⟩ := zok2_34 hk
    cases r with
    | none =>
      cases hz
      exact lv_ifnullN hx hb hd ho (k rfl rfl (fun w hw => S w (List.mem_cons_of_mem _ hw)))
    | some r =>
      cases hz
      have K := k rfl rfl (fun w hw => S w (List.mem_cons_of_mem _ hw))
      rw [if_neg (by simp), hnx] at K
      exact lv_ifnull hx hb hd K
  · rename_i r st
    obtain ⟨o, rfl, ho, rfl, hnx⟩ := zok2_35 hk
    cases r with
    | none =>
      cases hz
      have K := k rfl rfl (fun w hw => S w (List.mem_cons_of_mem _ hw))
      rw [if_pos rfl, hnx] at K
      exact lv_ifnonnullN hx hb hd K
    | some r =>
      cases hz
      have K := k rfl rfl (fun w hw => S w (List.mem_cons_of_mem _ hw))
      rw [if_neg (by simp)] at K
      exact lv_ifnonnull hx hb hd ho K
  · cases hz
set_option maxHeartbeats 4000000 in
theorem sd5 (C : CX p s m meth c y) (hv : (zK y)[ip]? = some v) (hok : zokI y ip = true) (hf : zfam (qop v) = 5) (h18 : qop v ≠ 18) (hz : zs5 (qop v) ip ls h st = some (.inl (ip1, ls1, st1, h1)))
    (S : ∀ w ∈ st, oV (hN h) w)
    (k : h1 = h → ls1 = ls → (∀ w ∈ st1, oV (hN h) w) → W p l e R s m args below meth c H locs cells slots Q (F0 m (zPc y ip1) lm (st1.map (iV al)))) :
    W p l e R s m args below meth c H locs cells slots Q (F0 m (qpc v) lm (st.map (iV al))) := by
  obtain ⟨ins, len, hd, hk⟩ := zokI_get hok hv
  rw [if_neg h18, hf] at hk
  try dsimp only at hk
  obtain ⟨hx, hb, hml, hown, hr, hlk, hin, ht⟩ := C
  generalize qop v = op at hz hk
  generalize qpc v = pc at hk hd ⊢
  obtain ⟨hnx, rfl, hop⟩ := zok5_g hk
  unfold zs5 zgo at hz
  split at hz
  · rename_i y1 x st
    have hy0 : rgI y1 := S _ List.mem_cons_self
    have hx0 : rgI x := S _ (List.mem_cons_of_mem _ List.mem_cons_self)
    split at hz
    · rename_i r hr1
      have key : rgI r ∧ (∀ (K : W p l e R s m args below meth c H locs cells slots Q (F0 m (pc + 1) lm (.int (Int32.ofInt r) :: st.map (iV al)))), W p l e R s m args below meth c H locs cells slots Q (F0 m pc lm (.int (Int32.ofInt y1) :: .int (Int32.ofInt x) :: st.map (iV al)))) := by
        rcases hop with ⟨rfl, rfl⟩ | ⟨rfl, rfl⟩ | ⟨rfl, rfl⟩ | ⟨rfl, rfl⟩ | ⟨rfl, rfl⟩ | ⟨rfl, rfl⟩ | ⟨rfl, rfl⟩ | ⟨rfl, rfl⟩
        · simp only [zarith] at hr1
          split at hr1
          · rename_i q
            cases hr1
            refine ⟨q, fun K => lv_iadd hx hb hd ?_⟩
            rw [Int32.ofInt_add] at K
            exact K
          · cases hr1
        · simp only [zarith] at hr1
          split at hr1
          · rename_i q
            cases hr1
            refine ⟨q, fun K => lv_isub hx hb hd ?_⟩
            rw [Int32.ofInt_sub] at K
            exact K
          · cases hr1
        · simp only [zarith] at hr1
          split at hr1
          · rename_i q
            cases hr1
            refine ⟨q, fun K => lv_imul hx hb hd ?_⟩
            rw [Int32.ofInt_mul] at K
            exact K
          · cases hr1
        · simp only [zarith] at hr1
          split at hr1
          · rename_i q
            cases hr1
            have hne : ¬ Int32.ofInt y1 = 0 := fun z => by have := (i32i hy0 rg0).1.mp z; omega
            have hrg : rgI (x / y1) := ⟨by have := Int.ediv_nonneg q.1 (by omega : 0 ≤ y1); omega, by have := Int.ediv_le_self y1 q.1; have := hx0.2; omega⟩
            refine ⟨hrg, fun K => lv_idiv hx hb hd hne ?_⟩
            have e : Int32.ofInt x / Int32.ofInt y1 = Int32.ofInt (x / y1) := by
              apply Int32.toInt_inj.mp
              rw [Int32.toInt_div, i32t hx0, i32t hy0, i32t hrg, Int.tdiv_eq_ediv_of_nonneg q.1]
              apply Int.bmod_eq_of_le
              · have := hrg.1; omega
              · have := hrg.2; omega
            rw [e]
            exact K
          · cases hr1
        · simp only [zarith] at hr1
          split at hr1
          · rename_i q
            cases hr1
            have hne : ¬ Int32.ofInt y1 = 0 := fun z => by have := (i32i hy0 rg0).1.mp z; omega
            have hrg : rgI (x % y1) := ⟨by have := Int.emod_nonneg x (by omega : y1 ≠ 0); omega, by have := Int.emod_lt_of_pos x q.2; have := hy0.2; omega⟩
            refine ⟨hrg, fun K => lv_irem hx hb hd hne ?_⟩
            have e : Int32.ofInt x - Int32.ofInt x / Int32.ofInt y1 * Int32.ofInt y1 = Int32.ofInt (x % y1) := by
              apply Int32.toInt_inj.mp
              rw [rem_toInt, i32t hx0, i32t hy0, i32t hrg, Int.tmod_eq_emod_of_nonneg q.1]
            rw [e]
            exact K
          · cases hr1
        · simp only [zarith] at hr1
          split at hr1
          · rename_i q
            cases hr1
            obtain ⟨n, rfl⟩ := Int.eq_ofNat_of_zero_le q.1
            obtain ⟨j, rfl⟩ := Int.eq_ofNat_of_zero_le q.2.1
            have hj : j < 31 := by omega
            have e0 : ((n : Int) / 2 ^ (Int.toNat (j : Int))) = ((n / 2 ^ j : Nat) : Int) := by
              rw [Int.toNat_natCast]
              norm_cast
            have hle : n / 2 ^ j ≤ n := Nat.div_le_self _ _
            have hn31 : n < 2 ^ 31 := by have := hx0.2; omega
            have hs := pk_shrN (n := n) hn31 (nI j &&& 31) j (zs_l j (by omega))
            obtain ⟨t, ht1⟩ : ∃ t, t = n / 2 ^ j := ⟨_, rfl⟩
            rw [← ht1] at e0 hle hs
            have hrg : rgI ((n : Int) / 2 ^ (Int.toNat (j : Int))) := by
              rw [e0]
              have := hx0.2
              exact ⟨by omega, by omega⟩
            refine ⟨hrg, fun K => lv_ishr hx hb hd ?_⟩
            rw [e0] at K
            have e9 : ∀ z : Nat, Int32.ofInt (z : Int) = nI z := fun z => rfl
            rw [e9] at K
            rw [e9, e9, hs]
            exact K
          · cases hr1
        · simp only [zarith] at hr1
          cases hr1
          refine ⟨rg_i32 _, fun K => lv_iand hx hb hd ?_⟩
          rw [Int32.ofInt_toInt] at K
          exact K
        · simp only [zarith] at hr1
          cases hr1
          refine ⟨rg_i32 _, fun K => lv_ior hx hb hd ?_⟩
          rw [Int32.ofInt_toInt] at K
          exact K
      cases hz
      have K := k rfl rfl (fun w hw => by rcases List.mem_cons.mp hw with rfl | hw; exact key.1; exact S w (List.mem_cons_of_mem _ (List.mem_cons_of_mem _ hw)))
      rw [hnx] at K
      exact key.2 K
    · cases hz
  · cases hz
end S2
