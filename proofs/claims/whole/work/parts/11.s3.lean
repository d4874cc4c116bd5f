section S3
variable {p : Program} {l : Launch} {e : Env} {R : Room} {s : State} {m : MethodId} {args : Array Value} {below : List Frame} {meth : Method} {c : Code} {H : Heap} {locs : List Loc} {cells slots : Nat} {Q : State → Prop}
variable {D : va_G} {cA : Nat → ClassId} {B0 : Nat} {al : Nat → Nat} {h h1 : HP} {ls ls1 st st1 : List MV} {lm : Array Slot} {y v ip ip1 : Nat}
theorem iE_obj {cA : Nat → ClassId} {al : Nat → Nat} {h : HP} {i b : Nat} (ht : (hK h i).1 = 10 + b) : iE cA al h i = .inr (b, (List.range (zNF b)).map (iF al h b i)) := by
  have e : (hK h i).1 - 10 = b := by omega
  unfold iE
  rw [if_neg (by omega), if_neg (by omega), if_neg (by omega), e]
theorem iE_arr {cA : Nat → ClassId} {al : Nat → Nat} {h : HP} {i b : Nat} (ht : (hK h i).1 = b) (hb : b ≤ 1) : iE cA al h i = .inl (cA b, (hK h i).2.toNat, .inl (fun k => Int32.ofInt (hI h i k))) := by
  unfold iE
  rw [if_pos (by omega), ht]
theorem iE_lng {cA : Nat → ClassId} {al : Nat → Nat} {h : HP} {i : Nat} (ht : (hK h i).1 = 2) : iE cA al h i = .inl (cA 2, (hK h i).2.toNat, .inr (.inl (fun k => Int64.ofInt (hI h i k)))) := by
  unfold iE
  rw [if_neg (by omega), if_pos ht]
theorem iE_ref {cA : Nat → ClassId} {al : Nat → Nat} {h : HP} {i b : Nat} (ht : (hK h i).1 = b) (hb : b = 3 ∨ b = 4) : iE cA al h i = .inl (cA b, (hK h i).2.toNat, .inr (.inr (.inr (.inr (fun k => (hR h i k).map al))))) := by
  unfold iE
  rw [if_neg (by omega), if_neg (by omega), if_pos (by omega), ht]
theorem iF_at {al : Nat → Nat} {h : HP} {b i k : Nat} (hk : k < zNF b) : ((List.range (zNF b)).map (iF al h b i))[k]? = some (iF al h b i k) := by
  rw [List.getElem?_map, List.getElem?_range hk]
  rfl
theorem iF_set {al : Nat → Nat} {h h1 : HP} {b i k : Nat} (ho : ∀ j, j ≠ k → iF al h1 b i j = iF al h b i j) : ((List.range (zNF b)).map (iF al h b i)).set k (iF al h1 b i k) = (List.range (zNF b)).map (iF al h1 b i) := by
  apply List.ext_getElem?
  intro j
  rw [List.getElem?_set]
  by_cases hjk : k = j
  · subst hjk
    rw [if_pos rfl]
    split
    · rename_i hl
      rw [iF_at (by simpa using hl)]
    · rename_i hl
      rw [List.getElem?_map, List.getElem?_eq_none (by simpa using hl)]
      rfl
  · rw [if_neg hjk, List.getElem?_map, List.getElem?_map]
    cases hx : (List.range (zNF b))[j]? with
    | none => rfl
    | some z =>
      have hz : z = j := by
        have := (List.getElem?_eq_some_iff.mp hx).2
        simp at this
        exact this.symm
      subst hz
      simp [ho z (Ne.symm hjk)]
theorem nar_ok {t : Nat} {x : Int} (hx : t = 0 ∨ t = 1 ∧ (x = 0 ∨ x = 1)) {ty : FieldType} (h0 : t = 0 → ty = .int) (h1 : t = 1 → ty = .boolean) : narrow ty (.int (Int32.ofInt x)) = .int (Int32.ofInt x) ∧ fits ty (.int (Int32.ofInt x)) = true := by
  rcases hx with hx | ⟨hx, rfl | rfl⟩
  · rw [h0 hx]; exact ⟨rfl, rfl⟩
  · rw [h1 hx]; exact ⟨by decide +kernel, by decide +kernel⟩
  · rw [h1 hx]; exact ⟨by decide +kernel, by decide +kernel⟩
theorem nar_ref {al : Nat → Nat} {r : Option Nat} {ty : FieldType} (h : zRt ty = true) : narrow ty (iV al (.inr (.inl r))) = iV al (.inr (.inl r)) ∧ fits ty (iV al (.inr (.inl r))) = true := by
  cases ty <;> first | (exact absurd h (by decide)) | (cases r <;> exact ⟨rfl, rfl⟩)
set_option maxHeartbeats 8000000 in
theorem sd3 (C : CX p s m meth c y) (hbf : BF D cA B0 s) (hv : (zK y)[ip]? = some v) (hok : zokI y ip = true) (hf : zfam (qop v) = 3) (h18 : qop v ≠ 18) (hz : zs3 (qop v) (qb v) (qc v) ip ls h st = some (.inl (ip1, ls1, st1, h1)))
    (hbud : cells + (h1.1.2.1 - h.1.2.1) ≤ R.cells ∧ slots + (h1.1.2.2 - h.1.2.2) ≤ R.slots) (hsz : B0 ≤ s.heap.size)
    (V : HV D cA B0 al h s H locs) (S : ∀ w ∈ st, oV (hN h) w)
    (k : ∀ al1 H1 locs1, Ext (hN h) al al1 → hN h ≤ hN h1 → h.1.2.1 ≤ h1.1.2.1 → h.1.2.2 ≤ h1.1.2.2 → HV D cA B0 al1 h1 s H1 locs1 → ls1 = ls → (∀ w ∈ st1, oV (hN h1) w) → W p l e R s m args below meth c H1 locs1 (cells + (h1.1.2.1 - h.1.2.1)) (slots + (h1.1.2.2 - h.1.2.2)) Q (F0 m (zPc y ip1) lm (st1.map (iV al1)))) :
    W p l e R s m args below meth c H locs cells slots Q (F0 m (qpc v) lm (st.map (iV al))) := by
  obtain ⟨ins, len, hd, hk⟩ := zokI_get hok hv
  rw [if_neg h18, hf] at hk
  try dsimp only at hk
  obtain ⟨hx, hb, hml, hown, hr, hlk, hin, ht⟩ := C
  have hbf' := hbf
  obtain ⟨hKK, hFW, -⟩ := hbf'
  have V' := V
  obtain ⟨⟨hP, hD, hO⟩, hX, hS⟩ := V'
  have hSh := hS.here
  have hA : ∀ q, H.size ≤ q → zA B0 q := fun q hq => by have := hS.1; show B0 ≤ q; omega
  have hts : ∀ w ∈ zFW, w.before args s = true := fun w hw => hbf.word hw
  have k0 : ∀ H1 locs1, h1.1 = h.1 → HV D cA B0 al h1 s H1 locs1 → ls1 = ls → (∀ w ∈ st1, oV (hN h1) w) → W p l e R s m args below meth c H1 locs1 cells slots Q (F0 m (zPc y ip1) lm (st1.map (iV al))) := by
    intro H1 locs1 h11 V1 e1 S1
    have K := k al H1 locs1 Ext.rf (by show h.1.1 ≤ h1.1.1; rw [h11]; exact Nat.le_refl _) (by rw [h11]; exact Nat.le_refl _) (by rw [h11]; exact Nat.le_refl _) V1 e1 S1
    rw [h11, Nat.sub_self, Nat.sub_self] at K
    exact K
  generalize qop v = op at hz hk
  generalize qb v = b at hz hk
  generalize qc v = cf at hz hk
  generalize qpc v = pc at hk hd ⊢
  unfold zs3 zgo at hz
  split at hz
  · -- getfield
    rename_i i st
    obtain ⟨hnx, ix, rfl, rfl, hb12, hcf, q, hq, hq1, hq2, hq3, hq4⟩ := zok3_16 hk
    split at hz
    · rename_i htag
      cases hz
      obtain ⟨q0, hL, hw⟩ := iW_at (cA := cA) (al := al) (h := h) (i := i) (S _ List.mem_cons_self) (by rw [htag]; simp [reg])
      rw [iE_obj htag] at hw
      have hl := hbf.word (args := args) (zfl_ok q hq)
      rw [hq1, hq2, hq3, hq4] at hl
      have K := k0 H locs rfl V rfl (fun w hw => by
        rcases List.mem_cons.mp hw with rfl | hw
        · split
          · show oV (hN h) (.inr (.inl (hR h i cf)))
            cases hx9 : hR h i cf with
            | none => trivial
            | some r => exact hO.2.1 i cf r hx9
          · exact hO.1 i cf
        · exact S w (List.mem_cons_of_mem _ hw))
      rw [hnx] at K
      refine va_get hx hb hts (zlay_ok b hb12) hown hKK hP q0 hw (zcl_at b hb12) cf hcf hl (fun x hx => hx) (iF_at hcf) hd ?_
      have e9 : iF al h b i cf = iV al (if zSh b cf = 2 then .inr (.inl (hR h i cf)) else .inl (hI h i cf)) := by
        unfold iF
        split <;> rfl
      rw [e9]
      exact K
    · cases hz
  · -- putfield, a number
    rename_i x i st
    obtain ⟨hnx, ix, rfl, rfl, hb12, hcf, hfin, q, hq, hq1, hq2, hq3, hq4⟩ := zok3_17 hk
    split at hz
    · rename_i htag
      obtain ⟨htag, hsh⟩ := htag
      cases hz
      obtain ⟨q0, hL, hw⟩ := iW_at (cA := cA) (al := al) (h := h) (i := i) (S _ (List.mem_cons_of_mem _ List.mem_cons_self)) (by rw [htag]; simp [reg])
      have hw0 := hw
      rw [iE_obj htag] at hw
      have hl := hbf.word (args := args) (zfl_ok q hq)
      rw [hq1, hq2, hq3, hq4] at hl
      have hx0 : rgI x := S _ List.mem_cons_self
      have hty := zsh_ok b hb12 cf hcf
      obtain ⟨n1, n2⟩ := nar_ok hsh hty.1 hty.2.1
      have hset : (List.range (zNF b)).map (iF al h b i) = (List.range (zNF b)).map (iF al h b i) := rfl
      have e8 : iF al (hSI h i cf x) b i cf = .int (Int32.ofInt x) := by
        unfold iF
        rw [if_neg (by omega)]
        show Value.int (Int32.ofInt (zu2 h.2.2.1 i cf x i cf)) = _
        simp [zu2]
      have e7 : ∀ j, j ≠ cf → iF al (hSI h i cf x) b i j = iF al h b i j := by
        intro j hj
        unfold iF
        have : hI (hSI h i cf x) i j = hI h i j := by
          show zu2 h.2.2.1 i cf x i j = h.2.2.1 i j
          simp only [zu2]
          rw [if_neg]
          rintro ⟨-, q⟩
          exact hj (by omega)
        rw [this]
        rfl
      have e6 : ((List.range (zNF b)).map (iF al h b i)).set cf (.int (Int32.ofInt x)) = (List.range (zNF b)).map (iF al (hSI h i cf x) b i) := by rw [← e8]; exact iF_set e7
      have e5 : iE cA al (hSI h i cf x) i = .inr (b, ((List.range (zNF b)).map (iF al h b i)).set cf (.int (Int32.ofInt x))) := by rw [e6]; exact iE_obj htag
      have ho1 : oH (hSI h i cf x) := ⟨fun a j => by
          show rgI (zu2 h.2.2.1 i cf x a j)
          unfold zu2
          split
          · exact hx0
          · exact hO.1 a j, hO.2.1, hO.2.2⟩
      have fin : ∀ (H1 : Heap) (locs1 : List Loc), va_P D zCl ((iW cA al h).set q0 (al i, .inr (b, ((List.range (zNF b)).map (iF al h b i)).set cf (.int (Int32.ofInt x))))) H1 → va_D (zA B0) ((iW cA al h).set q0 (al i, .inr (b, ((List.range (zNF b)).map (iF al h b i)).set cf (.int (Int32.ofInt x))))) → va_S (zA B0) H H1 locs1 → W p l e R s m args below meth c H1 locs1 cells slots Q (F0 m (pc + 3) lm (st1.map (iV al))) := by
        intro H1 locs1 P1 D1 S1
        rw [← e5] at P1 D1
        have V1 := HV.put (h1 := hSI h i cf x) V hL rfl rfl (fun j hj => by show (fun k => zu2 h.2.2.1 i cf x j k) = h.2.2.1 j; funext k; simp [zu2, hj]) (fun j hj => rfl) ho1 P1 D1 S1
        have K := k0 H1 locs1 rfl V1 rfl (fun w hw => S w (List.mem_cons_of_mem _ (List.mem_cons_of_mem _ hw)))
        rw [hnx] at K
        exact K
      rcases Bool.eq_false_or_eq_true (zTT b cf).2.2.2 with hft | hft
      · rcases hfin with hfin | ⟨hkd, hdecl⟩
        · rw [hfin] at hft; cases hft
        · exact va_putF hx hb hts (zlay_ok b hb12) (zFt b) (zty_ok b hb12) (znm_ok b hb12) hown hKK hP hD hSh q0 hw (zcl_at b hb12) cf hcf hl (fun x hx => hx) hft (hin hkd) hdecl (zty_ok b hb12 cf hcf) n1 n2 (by simp; exact hcf) hd fin
      · exact va_put hx hb hts (zlay_ok b hb12) (zFt b) (zty_ok b hb12) (znm_ok b hb12) hown hKK hP hD hSh q0 hw (zcl_at b hb12) cf hcf hl (fun x hx => hx) hft (zty_ok b hb12 cf hcf) n1 n2 (by simp; exact hcf) hd fin
    · cases hz
  all_goals sorry
end S3
theorem i_vc : Claimed_1_1 ∧ Claimed_1_2 := sorry
