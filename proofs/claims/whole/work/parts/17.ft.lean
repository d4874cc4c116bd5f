theorem zhn_1 : ((List.range 316).all fun y => decide (zH y = (zhn.filter (fun q => q.1 == y)).map (fun q => (q.2.1, q.2.2.1, zPc y q.2.2.2.1, q.2.2.2.2.1)))) = true := by decide +kernel
theorem zhn_2 : (zhn.all fun q => zw q.2.2.2.2.2.2.1 (.classLink (zcn (zO q.1)) q.2.2.2.2.1 (zen q.2.2.2.2.2.1)) && (zw q.2.2.2.2.2.2.2 (.castable (zen q.2.2.2.2.2.1) (zen q.2.2.2.2.2.1)) && decide (q.2.2.2.2.1 ≠ 0 ∧ q.2.2.2.2.2.1 < 3 ∧ q.1 < 315))) = true := by decide +kernel
theorem zhn_w {q : Nat × Nat × Nat × Nat × Nat × Nat × Nat × Nat} (hq : q ∈ zhn) : Jvm.Cond.classLink (zcn (zO q.1)) q.2.2.2.2.1 (zen q.2.2.2.2.2.1) ∈ zFW ∧ Jvm.Cond.castable (zen q.2.2.2.2.2.1) (zen q.2.2.2.2.2.1) ∈ zFW ∧ q.2.2.2.2.1 ≠ 0 ∧ q.2.2.2.2.2.1 < 3 ∧ q.1 < 315 := by
  have h1 := List.all_eq_true.mp zhn_2 q hq
  simp only [Bool.and_eq_true, decide_eq_true_eq] at h1
  exact ⟨zFW_of (of_decide_eq_true h1.1) rfl, zFW_of (of_decide_eq_true h1.2.1) rfl, h1.2.2⟩
section FTS
variable {p : Program} {l : Launch} {e : Env} {R : Room} {s : State} {m : MethodId} {args : Array Value} {below : List Frame} {meth : Method} {c : Code} {H : Heap} {locs : List Loc} {cells slots : Nat} {Q : State → Prop}
variable {D : va_G} {cA : Nat → ClassId} {B0 : Nat}
/-- caught -/
theorem catch_at (hbf : BF D cA B0 s) {y pc ex t : Nat} (C : CX p s m meth c y) (hy : y < 316) (hex : ex < 3) (hh : zhand y pc ex = some t) {q : Addr} {ce : Cell} {lm : Array Slot} {rest : List Value} (hq : H[q]? = some ce) (hcv : ce.vm = .none) (hcl : s.vm.findClass (zen ex) = some ce.cls)
    (k : W p l e R s m args below meth c H locs cells slots Q (F0 m (zPc y t) lm [.ref q])) : vx_W p l e R s m args below meth c H locs cells slots Q (F0 m pc lm rest) q := by
  unfold zhand at hh
  cases hf : zhn.find? (fun q => q.1 == y && decide (q.2.1 ≤ pc) && decide (pc < q.2.2.1) && q.2.2.2.2.2.1 == ex) with
  | none => rw [hf] at hh; cases hh
  | some w =>
    rw [hf] at hh
    have hh : w.2.2.2.1 = t := Option.some.inj hh
    obtain ⟨hw, as, bs, hsp, hpre⟩ := List.find?_eq_some_iff_append.mp hf
    simp only [Bool.and_eq_true, decide_eq_true_eq, beq_iff_eq] at hw
    obtain ⟨⟨⟨w1, w2⟩, w3⟩, w4⟩ := hw
    have htab := of_decide_eq_true (List.all_eq_true.mp zhn_1 y (List.mem_range.mpr hy))
    have hwm : w ∈ zhn := by rw [hsp]; simp
    obtain ⟨u1, u2, u3, u4, u5⟩ := zhn_w hwm
    rw [w1, w4] at u1
    rw [w4] at u2
    have hT : c.exceptionTable.toList = ((as.filter (fun q => q.1 == y)).map (fun q => (⟨q.2.1, q.2.2.1, zPc y q.2.2.2.1, q.2.2.2.2.1⟩ : ExceptionTableEntry))) ++ (⟨w.2.1, w.2.2.1, zPc y w.2.2.2.1, w.2.2.2.2.1⟩ : ExceptionTableEntry) :: ((bs.filter (fun q => q.1 == y)).map (fun q => (⟨q.2.1, q.2.2.1, zPc y q.2.2.2.1, q.2.2.2.2.1⟩ : ExceptionTableEntry))) := by
      rw [C.2.2.2.2.2.2.2 (by omega), htab]
      conv => lhs; rw [hsp]
      unfold tableOf
      rw [List.filter_append, List.filter_cons_of_pos (by rw [w1]; exact beq_self_eq_true y)]
      rw [List.map_append, List.map_append, List.map_cons, List.map_cons, List.map_map, List.map_map]
      rfl
    have hown := C.2.2.2.1
    refine vx_catch (name := zen ex) (E := zen ex) (ce := ce) hown _ _ _ hT ?_ ?_ u3 (hbf.word u1) (hbf.word u2) hq hcv hcl ?_
    · intro z hz
      obtain ⟨r, hr, rfl⟩ := List.mem_map.mp hz
      obtain ⟨hr1, hr2⟩ := List.mem_filter.mp hr
      have hr2 : r.1 = y := by simpa using hr2
      have hrm : r ∈ zhn := by rw [hsp]; exact List.mem_append_left _ hr1
      obtain ⟨v1, v2, v3, v4, -⟩ := zhn_w hrm
      rw [hr2] at v1
      by_cases hc : covers (⟨r.2.1, r.2.2.1, zPc y r.2.2.2.1, r.2.2.2.2.1⟩ : ExceptionTableEntry) pc = false
      · exact Or.inl hc
      · refine Or.inr ⟨v3, _, hbf.word v1, hbf.2.2.2.2.2.1 ex _ hex v4 ?_⟩
        intro he
        have := hpre r hr1
        simp only [Bool.not_eq_true', Bool.and_eq_false_iff] at this
        simp [covers] at hc
        rw [hr2, ← he] at this
        simp at this
        omega
    · simp [covers, w2, w3]
    · rw [hh]
      exact k
end FTS
