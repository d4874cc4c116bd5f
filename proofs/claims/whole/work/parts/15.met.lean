theorem zth_3 : ∀ (i : Nat) (q : Nat × Nat × Nat × Nat × Nat × Nat × String × Nat × Nat × Nat), zth[i]? = some q → ∀ w ∈ vx_atS (zcn q.1) q.2.2.2.1 (zen q.2.2.2.2.1) zNm, w ∈ zFW ∧ vx_ot w = true := by
  intro i
  induction i using Nat.strongRecOn with
  | ind i ih =>
    intro q hq
    have hi : i < 38 := by
      have := (List.getElem?_eq_some_iff.mp hq).1
      have e : zth.length = 38 := by decide +kernel
      omega
    have h1 := List.all_eq_true.mp zth_2 i (List.mem_range.mpr hi)
    rw [hq] at h1
    simp only [Bool.or_eq_true] at h1
    rcases h1 with h1 | h1
    · obtain ⟨r, hr, he⟩ := List.any_eq_true.mp h1
      have he := of_decide_eq_true he
      obtain ⟨j, hj⟩ := List.getElem?_of_mem hr
      rw [List.getElem?_take] at hj
      split at hj
      · rename_i hlt
        have := ih j hlt r hj
        rw [he.1, he.2.1, he.2.2] at this
        exact this
      · cases hj
    · intro w hw
      have h2 := List.all_eq_true.mp h1 w hw
      simp only [Bool.and_eq_true, List.contains_iff_mem] at h2
      exact h2
theorem hThr_iW {cA : Nat → ClassId} {al : Nat → Nat} {h : HP} : iW cA al (hThr h) = iW cA al h := rfl
theorem RH.kept {D : va_G} {cA : Nat → ClassId} {A : Nat → Prop} {al : Nat → Nat} {h : HP} {H H1 : Heap} (r : RH D cA A al h H) (hq : ∀ q, q < H.size → H1[q]? = H[q]?) : RH D cA A al h H1 :=
  ⟨r.1.kept (fun k x hx => hq x.1 ((r.1 k x hx).lt)), r.2⟩
theorem SX.kept {al : Nat → Nat} {h : HP} {B0 : Nat} {s : State} {H H1 : Heap} (x : SX al h B0 s H) (hz : H.size ≤ H1.size) (hq : ∀ q, q < H.size → ¬ zA B0 q → H1[q]? = H[q]?) : SX al h B0 s H1 := fun i hi h6 => by
  obtain ⟨a1, a2, a3, a4⟩ := x i hi h6
  exact ⟨a1.kept (hq _ a2 (by show ¬ B0 ≤ al i; omega)), Nat.lt_of_lt_of_le a2 hz, a3, a4⟩
set_option maxHeartbeats 4000000 in
/-- the ends of a method's run are the ends of its contract -/
theorem end_met {l : Launch} (hl : l.stackTraces = false) {D : va_G} {cA : Nat → ClassId} {B0 : Nat} (OK : zOK) {z : Nat} (hz : z < 315) {h h1 : HP} {o : OUT} {al : Nat → Nat} {mc ms : Nat} (hmc : mc = h1.1.2.1 - h.1.2.1) (hms : ms = h1.1.2.2 - h.1.2.2)
    {p : Program} {e : Env} {s : State} {m : MethodId} {args : Array Value} {below : List Frame} {meth : Method} {c : Code} (C : CX p s m meth c z) (hbf : BF D cA B0 s) (hB0 : B0 ≤ s.heap.size) :
    (∀ r, o = .inl r → ENDR p l e (zRm z mc ms) s m args below meth c (vx_MQ below (ZQ D cA B0 al h h1 o) (ZX D cA B0 al h h1 o) args s mc ms (zA B0)) D cA B0 (hN h) h.1.2.1 h.1.2.2 al z h1 r) ∧
    (∀ x, o = .inr x → ENDX p l e (zRm z mc ms) s m args below meth c (vx_MQ below (ZQ D cA B0 al h h1 o) (ZX D cA B0 al h h1 o) args s mc ms (zA B0)) D cA B0 (hN h) h.1.2.1 h.1.2.2 al z h1 x) := by
  obtain ⟨hx, hb, hml, hown, hret, hlk, hin, ht0⟩ := C
  have ht := ht0 hz
  have qe : ∀ (r : Option MV) (al1 : Nat → Nat) (H1 : Heap) (locs1 : List Loc) (t : State), Ext (hN h) al al1 → HV D cA B0 al1 h1 s H1 locs1 → (∀ w, r = some w → oV (hN h1) w) → t.heap = H1 → s.vm.Alike t.vm → ZE D cA B0 al h h1 s t r al1 := by
    intro r al1 H1 locs1 t X V ho ht hv
    subst ht
    exact ⟨X, V.1, V.2.1.moved hv, V.2.2.F rfl, ho⟩
  refine ⟨fun r hr al1 H1 locs1 lm1 ip v hv X hn V ho hsz hc0 hs0 hop => ?_, fun x hx9 => ⟨fun al1 H1 locs1 lm1 ip v hx1 st1 hv hop hqb hf X hn V hst hsz hc0 hs0 => ?_, fun al1 H1 locs1 lm1 ip v q ce rest hv hop hH X hn V hq hcv hcl hc0 hs0 => ?_⟩⟩
  · subst hr
    obtain ⟨ins, len, hd, hk⟩ := zokI_get (OK.1 z (by omega) ip) hv
    rw [← hmc, ← hms]
    refine vx_ret ?_
    rcases hop with ⟨hop, x, rfl, hsh⟩ | ⟨hop, x, rfl⟩ | ⟨hop, rfl⟩
    · rw [hop, if_neg (by decide), show zfam 30 = 4 from rfl] at hk
      obtain ⟨rfl, rfl, hrr⟩ := zok4_30 hk
      have hrx : rgI x := ho _ rfl
      have hq : ∀ t : State, t.heap = H1 → s.WarmedH t.vm → ZQ D cA B0 al h h1 (.inl (some (.inl x))) args s (.returned (some (.int (Int32.ofInt x)))) t := fun t hth hW9 => ⟨_, al1, rfl, rfl, qe _ al1 H1 locs1 t X V ho hth hW9.alike⟩
      rcases hrr with ⟨hz0, hrr⟩ | ⟨hz1, hrr⟩
      · exact W.zret (ty := .int) hx hb (hret.trans hrr) rfl hq (fun q hq => V.2.2.2.2 q hq) hd hlk
      · have hx01 : x = 0 ∨ x = 1 := by
          rcases hsh with hsh | ⟨-, hsh⟩
          · omega
          · exact hsh
        refine W.zret (ty := .boolean) hx hb (hret.trans hrr) ?_ hq (fun q hq => V.2.2.2.2 q hq) hd hlk
        rcases hx01 with rfl | rfl <;> decide +kernel
    · rw [hop, if_neg (by decide), show zfam 39 = 4 from rfl] at hk
      obtain ⟨rfl, rfl, C, hrr⟩ := zok4_39 hk
      have hq : ∀ t : State, t.heap = H1 → s.WarmedH t.vm → ZQ D cA B0 al h h1 (.inl (some (.inr (.inl x)))) args s (.returned (some (iV al1 (.inr (.inl x))))) t := fun t hth hW9 => ⟨_, al1, rfl, rfl, qe _ al1 H1 locs1 t X V ho hth hW9.alike⟩
      exact W.aret hx hb (hret.trans hrr) (Or.inl ⟨C, rfl⟩) (by cases x with
        | none => exact Or.inl rfl
        | some x => exact Or.inr ⟨_, rfl⟩) hq (fun q hq => V.2.2.2.2 q hq) hd hlk
    · rw [hop, if_neg (by decide), show zfam 31 = 4 from rfl] at hk
      obtain ⟨rfl, rfl, hrr⟩ := zok4_31 hk
      have hq : ∀ t : State, t.heap = H1 → s.WarmedH t.vm → ZQ D cA B0 al h h1 (.inl none) args s (.returned none) t := fun t hth hW9 => ⟨_, al1, rfl, rfl, qe _ al1 H1 locs1 t X V ho hth hW9.alike⟩
      exact W.vret hx hb (hret.trans hrr) hq (fun q hq => V.2.2.2.2 q hq) hd hlk
  · subst hx9
    obtain ⟨ins, len, hd, hk⟩ := zokI_get (OK.1 z (by omega) ip) hv
    rw [hop, if_neg (by decide), show zfam 32 = 4 from rfl] at hk
    obtain ⟨ik, is, ic, wd, tx, p1, p2, p3, hth, rfl, hH, hfr, hlo, d0, d3, drest⟩ := zok4_32 hk
    rw [hqb] at hth
    have w1 := List.all_eq_true.mp zth_1 _ (List.mem_of_getElem? hth)
    simp only [Bool.and_eq_true] at w1
    obtain ⟨w1, w2, w3⟩ := w1
    have u1 : Jvm.Cond.classLink (zcn (zO z)) ik (zen x) ∈ zFW := zFW_of (of_decide_eq_true w1) rfl
    have u2 : Jvm.Cond.initialized (zen x) ∈ zFW := zFW_of (of_decide_eq_true w2) rfl
    have u3 := zth_3 _ _ hth
    obtain ⟨sa, hsa⟩ := hbf.2.2.2.2.1 _ (List.mem_of_getElem? hth)
    have hc1 : h1.1.2.1 = hx1.1.2.1 + 1 := by rw [hf]; rfl
    have hs1 : h1.1.2.2 = hx1.1.2.2 + 6 := by rw [hf]; rfl
    have hcat := catS al1 hst
    have hXC : ∀ t : State, s.vm.Alike t.vm → H1.size ≤ t.heap.size → (∀ q : Nat, q < H1.size → t.heap[q]? = H1[q]?) → ZX D cA B0 al h h1 (.inr x) (zen x) s t := by
      intro t hv9 hz1 hk1
      refine ⟨x, al1, rfl, rfl, X, ?_, ?_, ?_, fun w hw => by cases hw⟩
      · rw [hf]
        exact RH.kept (h := hx1) V.1 hk1
      · rw [hf]
        exact SX.moved (h := hThr hx1) (SX.kept (h := hx1) V.2.1 hz1 (fun q hq _ => hk1 q hq)) hv9
      · exact ⟨Nat.le_trans V.2.2.1 hz1, fun q hq hA => (hk1 q (Nat.lt_of_lt_of_le hq V.2.2.1)).trans (V.2.2.2.1 q hq hA)⟩
    have hgood : ∀ w ∈ Jvm.Cond.classLink (zcn (zO z)) ik (zen x) :: Jvm.Cond.initialized (zen x) :: vx_atS (zcn (zO z)) ic (zen x) zNm, vx_ot w = true := by
      intro w hw
      rcases List.mem_cons.mp hw with rfl | hw
      · rfl
      · rcases List.mem_cons.mp hw with rfl | hw
        · rfl
        · exact (u3 w hw).2
    have hnil : ∀ (pc : Nat), ∀ y ∈ c.exceptionTable.toList, covers y pc = false := by
      intro pc y hy
      rw [ht, hH] at hy
      cases hy
    rcases drest with ⟨d4, d6, d9⟩ | ⟨d4, d7, d10⟩
    · exact vx_throwS (names := zNm) (mc := mc) (ms := ms) hx hb hl hown w3 (by decide +kernel) (hbf.word u1) (hbf.word u2) hsa (fun w hw => hbf.word (u3 w hw).1) hgood hbf.2.2.1 hbf.2.2.2.1 V.2.2 (hsz.trans hml.symm) d0 d3 d4 d6 d9 (hnil _)
        (by show 2 + 3 < zFr z; omega) (by show _ + (13 * (2 + 1) + 43) ≤ zLo z; omega) (by show _ ≤ mc; omega) (by show _ ≤ ms; omega) hlk hXC (fun q hq => V.2.2.2.2 q hq) (by omega) (by omega)
    · exact vx_throwSW (names := zNm) (mc := mc) (ms := ms) hx hb hl hown w3 (by decide +kernel) (hbf.word u1) (hbf.word u2) hsa (fun w hw => hbf.word (u3 w hw).1) hgood hbf.2.2.1 hbf.2.2.2.1 V.2.2 (hsz.trans hml.symm) d0 d3 d4 d7 d10 (hnil _)
        (by show 2 + 3 < zFr z; omega) (by show _ + (13 * (2 + 1) + 43) ≤ zLo z; omega) (by show _ ≤ mc; omega) (by show _ ≤ ms; omega) hlk hXC (fun q hq => V.2.2.2.2 q hq) (by omega) (by omega)
  · subst hx9
    rw [← hmc, ← hms]
    refine vx_out (E := zen x) (ce := ce) ?_ hlk hq hcv hcl ?_ (fun q hq => V.2.2.2.2 q hq) (Nat.le_refl _) (Nat.le_refl _)
    · intro y hy
      rw [ht, hH] at hy
      cases hy
    · intro t hth hv9
      exact ⟨x, al1, rfl, rfl, qe none al1 H1 locs1 t X V (fun w hw => by cases hw) hth hv9⟩
