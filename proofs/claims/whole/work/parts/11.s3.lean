section S3
variable {p : Program} {l : Launch} {e : Env} {R : Room} {s : State} {m : MethodId} {args : Array Value} {below : List Frame} {meth : Method} {c : Code} {H : Heap} {locs : List Loc} {cells slots : Nat} {Q : State → Prop}
variable {D : va_G} {cA : Nat → ClassId} {B0 : Nat} {al : Nat → Nat} {h h1 : HP} {ls ls1 st st1 : List MV} {lm : Array Slot} {y v ip ip1 : Nat}
theorem iE_obj {cA : Nat → ClassId} {al : Nat → Nat} {h : HP} {i b : Nat} (ht : (hK h i).1 = 10 + b) : iE cA al h i = .inr (b, (List.range (zNF b)).map (iF al h b i)) := by
  have e : (hK h i).1 - 10 = b := by omega
  unfold iE
  rw [if_neg (by omega), if_neg (by omega), if_neg (by omega), e]
theorem iE_arr {cA : Nat → ClassId} {al : Nat → Nat} {h : HP} {i b : Nat} (ht : (hK h i).1 = b) (hb : b ≤ 1) : iE cA al h i = .inl (cA b, (hK h i).2.toNat, .inl (fun k => Int32.ofInt (hI h i k))) := by
  unfold iE
  rw [if_pos (by omega), ht]
theorem iE_lng {cA : Nat → ClassId} {al : Nat → Nat} {h : HP} {i : Nat} (ht : (hK h i).1 = 2) : iE cA al h i = .inl (cA 2, (hK h i).2.toNat, .inr (.inl (fun k => Int64.ofInt (hI h i k)))) := by
  unfold iE
  rw [if_neg (by omega), if_pos ht]
theorem iE_ref {cA : Nat → ClassId} {al : Nat → Nat} {h : HP} {i b : Nat} (ht : (hK h i).1 = b) (hb : b = 3 ∨ b = 4) : iE cA al h i = .inl (cA b, (hK h i).2.toNat, .inr (.inr (.inr (.inr (fun k => (hR h i k).map al))))) := by
  unfold iE
  rw [if_neg (by omega), if_neg (by omega), if_pos (by omega), ht]
theorem iF_at {al : Nat → Nat} {h : HP} {b i k : Nat} (hk : k < zNF b) : ((List.range (zNF b)).map (iF al h b i))[k]? = some (iF al h b i k) := by
  rw [List.getElem?_map, List.getElem?_range hk]
  rfl
theorem iF_set {al : Nat → Nat} {h h1 : HP} {b i k : Nat} (ho : ∀ j, j ≠ k → iF al h1 b i j = iF al h b i j) : ((List.range (zNF b)).map (iF al h b i)).set k (iF al h1 b i k) = (List.range (zNF b)).map (iF al h1 b i) := by
  apply List.ext_getElem?
  intro j
  rw [List.getElem?_set]
  by_cases hjk : k = j
  · subst hjk
    rw [if_pos rfl]
    split
    · rename_i hl
      rw [iF_at (by simpa using hl)]
    · rename_i hl
      rw [List.getElem?_map, List.getElem?_eq_none (by simpa using hl)]
      rfl
  · rw [if_neg hjk, List.getElem?_map, List.getElem?_map]
    cases hx : (List.range (zNF b))[j]? with
    | none => rfl
    | some z =>
      have hz : z = j := by
        have := (List.getElem?_eq_some_iff.mp hx).2
        simp at this
        exact this.symm
      subst hz
      simp [ho z (Ne.symm hjk)]
theorem nar_ok {t : Nat} {x : Int} (hx : t = 0 ∨ t = 1 ∧ (x = 0 ∨ x = 1)) {ty : FieldType} (h0 : t = 0 → ty = .int) (h1 : t = 1 → ty = .boolean) : narrow ty (.int (Int32.ofInt x)) = .int (Int32.ofInt x) ∧ fits ty (.int (Int32.ofInt x)) = true := by
  rcases hx with hx | ⟨hx, rfl | rfl⟩
  · rw [h0 hx]; exact ⟨rfl, rfl⟩
  · rw [h1 hx]; exact ⟨by decide +kernel, by decide +kernel⟩
  · rw [h1 hx]; exact ⟨by decide +kernel, by decide +kernel⟩
theorem nar_ref {al : Nat → Nat} {r : Option Nat} {ty : FieldType} (h : zRt ty = true) : narrow ty (iV al (.inr (.inl r))) = iV al (.inr (.inl r)) ∧ fits ty (iV al (.inr (.inl r))) = true := by
  cases ty <;> first | (exact absurd h (by decide)) | (cases r <;> exact ⟨rfl, rfl⟩)
set_option maxHeartbeats 8000000 in
theorem sd3 (C : CX p s m meth c y) (hbf : BF D cA B0 s) (hv : (zK y)[ip]? = some v) (hok : zokI y ip = true) (hf : zfam (qop v) = 3) (h18 : qop v ≠ 18) (hz : zs3 (qop v) (qb v) (qc v) ip ls h st = some (.inl (ip1, ls1, st1, h1)))
    (hbud : cells + (h1.1.2.1 - h.1.2.1) ≤ R.cells ∧ slots + (h1.1.2.2 - h.1.2.2) ≤ R.slots) (hsz : B0 ≤ s.heap.size)
    (V : HV D cA B0 al h s H locs) (S : ∀ w ∈ st, oV (hN h) w)
    (k : ∀ al1 H1 locs1, Ext (hN h) al al1 → hN h ≤ hN h1 → h.1.2.1 ≤ h1.1.2.1 → h.1.2.2 ≤ h1.1.2.2 → HV D cA B0 al1 h1 s H1 locs1 → ls1 = ls → (∀ w ∈ st1, oV (hN h1) w) → W p l e R s m args below meth c H1 locs1 (cells + (h1.1.2.1 - h.1.2.1)) (slots + (h1.1.2.2 - h.1.2.2)) Q (F0 m (zPc y ip1) lm (st1.map (iV al1)))) :
    W p l e R s m args below meth c H locs cells slots Q (F0 m (qpc v) lm (st.map (iV al))) := by
  obtain ⟨ins, len, hd, hk⟩ := zokI_get hok hv
  rw [if_neg h18, hf] at hk
  try dsimp only at hk
  obtain ⟨hx, hb, hml, hown, hr, hlk, hin, ht⟩ := C
  have hbf' := hbf
  obtain ⟨hKK, hFW, -⟩ := hbf'
  have V' := V
  obtain ⟨⟨hP, hD, hO⟩, hX, hS⟩ := V'
  have hSh := hS.here
  have hA : ∀ q, H.size ≤ q → zA B0 q := fun q hq => by have := hS.1; show B0 ≤ q; omega
  have hts : ∀ w ∈ zFW, w.before args s = true := fun w hw => hbf.word hw
  have k0 : ∀ H1 locs1, h1.1 = h.1 → HV D cA B0 al h1 s H1 locs1 → ls1 = ls → (∀ w ∈ st1, oV (hN h1) w) → W p l e R s m args below meth c H1 locs1 cells slots Q (F0 m (zPc y ip1) lm (st1.map (iV al))) := by
    intro H1 locs1 h11 V1 e1 S1
    have K := k al H1 locs1 Ext.rf (by show h.1.1 ≤ h1.1.1; rw [h11]; exact Nat.le_refl _) (by rw [h11]; exact Nat.le_refl _) (by rw [h11]; exact Nat.le_refl _) V1 e1 S1
    rw [h11, Nat.sub_self, Nat.sub_self] at K
    exact K
  generalize qop v = op at hz hk
  generalize qa v = av at hk
  generalize qb v = b at hz hk
  generalize qc v = cf at hz hk
  generalize qpc v = pc at hk hd ⊢
  unfold zs3 zgo at hz
  split at hz
  · -- getfield
    rename_i i st
    obtain ⟨hnx, ix, rfl, rfl, hb12, hcf, q, hq, hq1, hq2, hq3, hq4⟩ := zok3_16 hk
    split at hz
    · rename_i htag
      cases hz
      obtain ⟨q0, hL, hw⟩ := iW_at (cA := cA) (al := al) (h := h) (i := i) (S _ List.mem_cons_self) (by rw [htag]; simp [reg])
      rw [iE_obj htag] at hw
      have hl := hbf.word (args := args) (zfl_ok q hq)
      rw [hq1, hq2, hq3, hq4] at hl
      have K := k0 H locs rfl V rfl (fun w hw => by
        rcases List.mem_cons.mp hw with rfl | hw
        · split
          · show oV (hN h) (.inr (.inl (hR h i cf)))
            cases hx9 : hR h i cf with
            | none => trivial
            | some r => exact hO.2.1 i cf r hx9
          · exact hO.1 i cf
        · exact S w (List.mem_cons_of_mem _ hw))
      rw [hnx] at K
      refine va_get hx hb hts (zlay_ok b hb12) hown hKK hP q0 hw (zcl_at b hb12) cf hcf hl (fun x hx => hx) (iF_at hcf) hd ?_
      have e9 : iF al h b i cf = iV al (if zSh b cf = 2 then .inr (.inl (hR h i cf)) else .inl (hI h i cf)) := by
        unfold iF
        split <;> rfl
      rw [e9]
      exact K
    · cases hz
  · -- putfield, a number
    rename_i x i st
    obtain ⟨hnx, ix, rfl, rfl, hb12, hcf, hfin, q, hq, hq1, hq2, hq3, hq4⟩ := zok3_17 hk
    split at hz
    · rename_i htag
      obtain ⟨htag, hsh⟩ := htag
      cases hz
      obtain ⟨q0, hL, hw⟩ := iW_at (cA := cA) (al := al) (h := h) (i := i) (S _ (List.mem_cons_of_mem _ List.mem_cons_self)) (by rw [htag]; simp [reg])
      have hw0 := hw
      rw [iE_obj htag] at hw
      have hl := hbf.word (args := args) (zfl_ok q hq)
      rw [hq1, hq2, hq3, hq4] at hl
      have hx0 : rgI x := S _ List.mem_cons_self
      have hty := zsh_ok b hb12 cf hcf
      obtain ⟨n1, n2⟩ := nar_ok hsh hty.1 hty.2.1
      have hset : (List.range (zNF b)).map (iF al h b i) = (List.range (zNF b)).map (iF al h b i) := rfl
      have e8 : iF al (hSI h i cf x) b i cf = .int (Int32.ofInt x) := by
        unfold iF
        rw [if_neg (by omega)]
        show Value.int (Int32.ofInt (zu2 h.2.2.1 i cf x i cf)) = _
        simp [zu2]
      have e7 : ∀ j, j ≠ cf → iF al (hSI h i cf x) b i j = iF al h b i j := by
        intro j hj
        unfold iF
        have : hI (hSI h i cf x) i j = hI h i j := by
          show zu2 h.2.2.1 i cf x i j = h.2.2.1 i j
          simp only [zu2]
          rw [if_neg]
          rintro ⟨-, q⟩
          exact hj (by omega)
        rw [this]
        rfl
      have e6 : ((List.range (zNF b)).map (iF al h b i)).set cf (.int (Int32.ofInt x)) = (List.range (zNF b)).map (iF al (hSI h i cf x) b i) := by rw [← e8]; exact iF_set e7
      have e5 : iE cA al (hSI h i cf x) i = .inr (b, ((List.range (zNF b)).map (iF al h b i)).set cf (.int (Int32.ofInt x))) := by rw [e6]; exact iE_obj htag
      have ho1 : oH (hSI h i cf x) := ⟨fun a j => by
          show rgI (zu2 h.2.2.1 i cf x a j)
          unfold zu2
          split
          · exact hx0
          · exact hO.1 a j, hO.2.1, hO.2.2⟩
      have fin : ∀ (H1 : Heap) (locs1 : List Loc), va_P D zCl ((iW cA al h).set q0 (al i, .inr (b, ((List.range (zNF b)).map (iF al h b i)).set cf (.int (Int32.ofInt x))))) H1 → va_D (zA B0) ((iW cA al h).set q0 (al i, .inr (b, ((List.range (zNF b)).map (iF al h b i)).set cf (.int (Int32.ofInt x))))) → va_S (zA B0) H H1 locs1 → W p l e R s m args below meth c H1 locs1 cells slots Q (F0 m (pc + 3) lm (st1.map (iV al))) := by
        intro H1 locs1 P1 D1 S1
        rw [← e5] at P1 D1
        have V1 := HV.put (h1 := hSI h i cf x) V hL rfl rfl (fun j hj => by show (fun k => zu2 h.2.2.1 i cf x j k) = h.2.2.1 j; funext k; simp [zu2, hj]) (fun j hj => rfl) ho1 P1 D1 S1
        have K := k0 H1 locs1 rfl V1 rfl (fun w hw => S w (List.mem_cons_of_mem _ (List.mem_cons_of_mem _ hw)))
        rw [hnx] at K
        exact K
      rcases Bool.eq_false_or_eq_true (zTT b cf).2.2.2 with hft | hft
      · rcases hfin with hfin | ⟨hkd, hdecl⟩
        · rw [hfin] at hft; cases hft
        · exact va_putF hx hb hts (zlay_ok b hb12) (zFt b) (zty_ok b hb12) (znm_ok b hb12) hown hKK hP hD hSh q0 hw (zcl_at b hb12) cf hcf hl (fun x hx => hx) hft (hin hkd) hdecl (zty_ok b hb12 cf hcf) n1 n2 (by simp; exact hcf) hd fin
      · exact va_put hx hb hts (zlay_ok b hb12) (zFt b) (zty_ok b hb12) (znm_ok b hb12) hown hKK hP hD hSh q0 hw (zcl_at b hb12) cf hcf hl (fun x hx => hx) hft (zty_ok b hb12 cf hcf) n1 n2 (by simp; exact hcf) hd fin
    · cases hz
  · -- putfield, a reference
    rename_i r i st
    obtain ⟨hnx, ix, rfl, rfl, hb12, hcf, hfin, q, hq, hq1, hq2, hq3, hq4⟩ := zok3_17 hk
    split at hz
    · rename_i htag
      obtain ⟨htag, hsh⟩ := htag
      cases hz
      obtain ⟨q0, hL, hw⟩ := iW_at (cA := cA) (al := al) (h := h) (i := i) (S _ (List.mem_cons_of_mem _ List.mem_cons_self)) (by rw [htag]; simp [reg])
      rw [iE_obj htag] at hw
      have hl := hbf.word (args := args) (zfl_ok q hq)
      rw [hq1, hq2, hq3, hq4] at hl
      have hr0 : oV (hN h) (.inr (.inl r)) := S _ List.mem_cons_self
      have hty := zsh_ok b hb12 cf hcf
      obtain ⟨n1, n2⟩ := nar_ref (al := al) (r := r) (hty.2.2.1 hsh)
      have e8 : iF al (hSR h i cf r) b i cf = iV al (.inr (.inl r)) := by
        unfold iF
        rw [if_pos hsh]
        show iV al (.inr (.inl (zu2 h.2.2.2 i cf r i cf))) = _
        simp [zu2]
      have e7 : ∀ j, j ≠ cf → iF al (hSR h i cf r) b i j = iF al h b i j := by
        intro j hj
        unfold iF
        have : hR (hSR h i cf r) i j = hR h i j := by
          show zu2 h.2.2.2 i cf r i j = h.2.2.2 i j
          simp only [zu2]
          rw [if_neg]
          rintro ⟨-, q⟩
          exact hj (by omega)
        rw [this]
        rfl
      have e6 : ((List.range (zNF b)).map (iF al h b i)).set cf (iV al (.inr (.inl r))) = (List.range (zNF b)).map (iF al (hSR h i cf r) b i) := by rw [← e8]; exact iF_set e7
      have e5 : iE cA al (hSR h i cf r) i = .inr (b, ((List.range (zNF b)).map (iF al h b i)).set cf (iV al (.inr (.inl r)))) := by rw [e6]; exact iE_obj htag
      have ho1 : oH (hSR h i cf r) := ⟨hO.1, fun a j z hz => by
          have hz : zu2 h.2.2.2 i cf r a j = some z := hz
          unfold zu2 at hz
          split at hz
          · rw [hz] at hr0; exact hr0
          · exact hO.2.1 a j z hz, hO.2.2⟩
      have fin : ∀ (H1 : Heap) (locs1 : List Loc), va_P D zCl ((iW cA al h).set q0 (al i, .inr (b, ((List.range (zNF b)).map (iF al h b i)).set cf (iV al (.inr (.inl r)))))) H1 → va_D (zA B0) ((iW cA al h).set q0 (al i, .inr (b, ((List.range (zNF b)).map (iF al h b i)).set cf (iV al (.inr (.inl r)))))) → va_S (zA B0) H H1 locs1 → W p l e R s m args below meth c H1 locs1 cells slots Q (F0 m (pc + 3) lm (st1.map (iV al))) := by
        intro H1 locs1 P1 D1 S1
        rw [← e5] at P1 D1
        have V1 := HV.put (h1 := hSR h i cf r) V hL rfl rfl (fun j hj => rfl) (fun j hj => by show (fun k => zu2 h.2.2.2 i cf r j k) = h.2.2.2 j; funext k; simp [zu2, hj]) ho1 P1 D1 S1
        have K := k0 H1 locs1 rfl V1 rfl (fun w hw => S w (List.mem_cons_of_mem _ (List.mem_cons_of_mem _ hw)))
        rw [hnx] at K
        exact K
      rcases Bool.eq_false_or_eq_true (zTT b cf).2.2.2 with hft | hft
      · rcases hfin with hfin | ⟨hkd, hdecl⟩
        · rw [hfin] at hft; cases hft
        · exact va_putF hx hb hts (zlay_ok b hb12) (zFt b) (zty_ok b hb12) (znm_ok b hb12) hown hKK hP hD hSh q0 hw (zcl_at b hb12) cf hcf hl (fun x hx => hx) hft (hin hkd) hdecl (zty_ok b hb12 cf hcf) n1 n2 (by simp; exact hcf) hd fin
      · exact va_put hx hb hts (zlay_ok b hb12) (zFt b) (zty_ok b hb12) (znm_ok b hb12) hown hKK hP hD hSh q0 hw (zcl_at b hb12) cf hcf hl (fun x hx => hx) hft (zty_ok b hb12 cf hcf) n1 n2 (by simp; exact hcf) hd fin
    · cases hz
  · -- new
    obtain ⟨hnx, ix, rfl, rfl, hb12, q, hq, hq1, hq2, hq3⟩ := zok3_19 hk
    cases hz
    obtain ⟨w1, w2, w3⟩ := znw_ok q hq
    rw [hq3] at w1 w2 w3
    rw [hq1, hq2] at w1
    have hbud : cells + 1 ≤ R.cells ∧ slots + zNF b ≤ R.slots := by
      have e1 : (hNew h (10 + b) 0 (zNF b)).1.2.1 - h.1.2.1 = 1 := by show h.1.2.1 + 1 - h.1.2.1 = 1; omega
      have e2 : (hNew h (10 + b) 0 (zNF b)).1.2.2 - h.1.2.2 = zNF b := by show h.1.2.2 + zNF b - h.1.2.2 = zNF b; omega
      rw [e1, e2] at hbud
      exact hbud
    have htn : hK (hNew h (10 + b) 0 (zNF b)) (hN h) = (10 + b, 0) := by show zup h.2.1 h.1.1 (10 + b, 0) h.1.1 = _; simp [zup]
    have hfs : ∀ q, iE cA (zup al (hN h) q) (hNew h (10 + b) 0 (zNF b)) (hN h) = .inr (b, (List.range (zNF b)).map (fun j => if zSh b j = 2 then Value.null else .int 0)) := by
      intro q
      rw [iE_obj (b := b) (by rw [htn])]
      congr 2
      apply List.map_congr_left
      intro j _
      unfold iF
      have z1 : hR (hNew h (10 + b) 0 (zNF b)) (hN h) j = none := by show zup h.2.2.2 h.1.1 (fun _ => none) h.1.1 j = none; simp [zup]
      have z2 : hI (hNew h (10 + b) 0 (zNF b)) (hN h) j = 0 := by show zup h.2.2.1 h.1.1 (fun _ => 0) h.1.1 j = 0; simp [zup]
      rw [z1, z2]
      rfl
    refine va_new (C := zcn b) (T := zTT b) (N := zNF b) (ci := b) (fs := (List.range (zNF b)).map (fun j => if zSh b j = 2 then Value.null else .int 0)) hx hb hts (zlay_ok b hb12) (zFt b) (zty_ok b hb12) hown (hbf.word w1) (hbf.word w2) (hbf.word w3) hKK hP hD hSh hA (zcl_at b hb12) ?_ hbud.1 hbud.2 hd ?_
    · intro j hj
      have hty := zsh_ok b hb12 j hj
      show _ = ((List.range (zNF b)).map (fun j => if zSh b j = 2 then Value.null else .int 0)).getD j .null
      rw [List.getD_eq_getElem?_getD, List.getElem?_map, List.getElem?_range hj]
      show _ = (if zSh b j = 2 then Value.null else .int 0)
      rcases (show zSh b j = 0 ∨ zSh b j = 1 ∨ zSh b j = 2 by omega) with e | e | e
      · rw [hty.1 e, e]; rfl
      · rw [hty.2.1 e, e]; rfl
      · have := hty.2.2.1 e
        rw [if_pos e]
        cases hft : zFt b j <;> rw [hft] at this <;> first | (exact absurd this (by decide)) | rfl
    · intro q H1 P1 D1 S1
      rw [← hfs q] at P1 D1
      obtain ⟨X1, V1⟩ := HV.push V (by simp [reg]) (by intro h; omega) P1 D1 S1
      have K := k (zup al (hN h) q) H1 locs X1 (Nat.le_succ _) (Nat.le_succ _) (Nat.le_add_right _ _) V1 rfl (fun w hw => by
        rcases List.mem_cons.mp hw with rfl | hw
        · exact Nat.lt_succ_self _
        · exact oV_mono (Nat.le_succ _) (S w hw))
      have e1 : (hNew h (10 + b) 0 (zNF b)).1.2.1 - h.1.2.1 = 1 := by show h.1.2.1 + 1 - h.1.2.1 = 1; omega
      have e2 : (hNew h (10 + b) 0 (zNF b)).1.2.2 - h.1.2.2 = zNF b := by show h.1.2.2 + zNF b - h.1.2.2 = zNF b; omega
      rw [hnx, e1, e2] at K
      have e3 : st.map (iV (zup al (hN h) q)) = st.map (iV al) := List.map_congr_left fun w hw => iV_ext X1 (S w hw)
      simp only [List.map_cons, e3] at K
      have e5 : iV (zup al (hN h) q) (.inr (.inl (some (hN h)))) = .ref q := by simp [iV, zup]
      rw [e5] at K
      exact K
  · -- newarray
    rename_i n st
    obtain ⟨hnx, aty, rfl, rfl, hb3, hat⟩ := zok3_20 hk
    split at hz
    · rename_i hn
      cases hz
      have hrt : newarray.typeOf aty = zaT b := by
        subst hat
        cases aty <;> first | rfl | (exact absurd hb3 (by decide))
      have hbud : cells + 1 ≤ R.cells ∧ slots + n.toNat ≤ R.slots := by
        have e1 : (hNew h b n n.toNat).1.2.1 - h.1.2.1 = 1 := by show h.1.2.1 + 1 - h.1.2.1 = 1; omega
        have e2 : (hNew h b n n.toNat).1.2.2 - h.1.2.2 = n.toNat := by show h.1.2.2 + n.toNat - h.1.2.2 = n.toNat; omega
        rw [e1, e2] at hbud
        exact hbud
      obtain ⟨nn, rfl⟩ := Int.eq_ofNat_of_zero_le hn.1
      have hnn : nn ≤ 10000 := by omega
      have e0 : Int32.ofInt (nn : Int) = nI nn := rfl
      have htn : hK (hNew h b (nn : Int) (nn : Int).toNat) (hN h) = (b, (nn : Int)) := by show zup h.2.1 h.1.1 (b, (nn : Int)) h.1.1 = _; simp [zup]
      have z2 : ∀ j : Int, hI (hNew h b (nn : Int) (nn : Int).toNat) (hN h) j = 0 := by intro j; show zup h.2.2.1 h.1.1 (fun _ => 0) h.1.1 j = 0; simp [zup]
      refine va_newa (ty := zaT b) (N' := nn) (a0 := (nn, if b = 2 then .inr (.inl (fun _ => 0)) else .inl (fun _ => 0))) hx hb (by rw [hrt]; exact hbf.word (zac_ok b hb3)) hrt hKK hP hD hSh hA ?_ (by rw [e0]; exact nI_pos (by omega)) (by rw [e0]; exact nI_clamp (by omega)) ?_ hbud.1 (by have := hbud.2; rw [Int.toNat_natCast] at this; exact this) hd ?_
      · intro cA'
        rcases (show b = 0 ∨ b = 1 ∨ b = 2 by omega) with rfl | rfl | rfl <;> rfl
      · rcases (show b = 0 ∨ b = 1 ∨ b = 2 by omega) with rfl | rfl | rfl
        · show nn * 4 ≤ _; omega
        · show nn * 1 ≤ _; omega
        · show nn * 8 ≤ _; omega
      · intro q cA' H1 K1 P1 D1 S1
        have hcA : cA' = cA b := by
          have r1 := (K1.2 5 (cA', zaT b) (by rfl)).2
          have r2 : va_RA s (cA b) (zaT b) := by
            rcases (show b = 0 ∨ b = 1 ∨ b = 2 by omega) with rfl | rfl | rfl
            · exact (hKK.2 0 _ rfl).2
            · exact (hKK.2 1 _ rfl).2
            · exact (hKK.2 2 _ rfl).2
          exact va_RA_inj r1 r2
        subst hcA
        have hfs : iE cA (zup al (hN h) q) (hNew h b (nn : Int) (nn : Int).toNat) (hN h) = .inl (cA b, nn, if b = 2 then .inr (.inl (fun _ => 0)) else .inl (fun _ => 0)) := by
          rcases (show b ≤ 1 ∨ b = 2 by omega) with hb1 | rfl
          · rw [iE_arr (b := b) (by rw [htn]) hb1, htn, if_neg (by omega)]
            simp only [z2]
            rw [Int.toNat_natCast]
            rfl
          · rw [iE_lng (by rw [htn]), htn, if_pos rfl]
            simp only [z2]
            rw [Int.toNat_natCast]
            rfl
        rw [← hfs] at P1 D1
        obtain ⟨X1, V1⟩ := HV.push V (by simp [reg]; omega) (by intro _; exact hn) P1 D1 S1
        have K := k (zup al (hN h) q) H1 locs X1 (Nat.le_succ _) (Nat.le_succ _) (Nat.le_add_right _ _) V1 rfl (fun w hw => by
          rcases List.mem_cons.mp hw with rfl | hw
          · exact Nat.lt_succ_self _
          · exact oV_mono (Nat.le_succ _) (S w (List.mem_cons_of_mem _ hw)))
        have e1 : (hNew h b (nn : Int) (nn : Int).toNat).1.2.1 - h.1.2.1 = 1 := by show h.1.2.1 + 1 - h.1.2.1 = 1; omega
        have e2 : (hNew h b (nn : Int) (nn : Int).toNat).1.2.2 - h.1.2.2 = nn := by show h.1.2.2 + (nn : Int).toNat - h.1.2.2 = nn; omega
        rw [hnx, e1, e2] at K
        have e3 : st.map (iV (zup al (hN h) q)) = st.map (iV al) := List.map_congr_left fun w hw => iV_ext X1 (S w (List.mem_cons_of_mem _ hw))
        simp only [List.map_cons, e3] at K
        have e5 : iV (zup al (hN h) q) (.inr (.inl (some (hN h)))) = .ref q := by simp [iV, zup]
        rw [e5] at K
        exact K
    · cases hz
  · -- anewarray
    rename_i n st
    obtain ⟨hnx, ix, rfl, rfl, hb34, q, hq, hq1, hq2, hq3⟩ := zok3_21 hk
    split at hz
    · rename_i hn
      cases hz
      obtain ⟨w1, w2⟩ := zan_ok q hq
      rw [hq3] at w1 w2
      rw [hq1, hq2] at w1
      have hrt : FieldType.object (zaC b) = zaT b := by rcases hb34 with rfl | rfl <;> rfl
      have hbud : cells + 1 ≤ R.cells ∧ slots + n.toNat ≤ R.slots := by
        have e1 : (hNew h b n n.toNat).1.2.1 - h.1.2.1 = 1 := by show h.1.2.1 + 1 - h.1.2.1 = 1; omega
        have e2 : (hNew h b n n.toNat).1.2.2 - h.1.2.2 = n.toNat := by show h.1.2.2 + n.toNat - h.1.2.2 = n.toNat; omega
        rw [e1, e2] at hbud
        exact hbud
      obtain ⟨nn, rfl⟩ := Int.eq_ofNat_of_zero_le hn.1
      have hnn : nn ≤ 10000 := by omega
      have e0 : Int32.ofInt (nn : Int) = nI nn := rfl
      have htn : hK (hNew h b (nn : Int) (nn : Int).toNat) (hN h) = (b, (nn : Int)) := by show zup h.2.1 h.1.1 (b, (nn : Int)) h.1.1 = _; simp [zup]
      have z2 : ∀ j : Int, hR (hNew h b (nn : Int) (nn : Int).toNat) (hN h) j = none := by intro j; show zup h.2.2.2 h.1.1 (fun _ => none) h.1.1 j = none; simp [zup]
      refine va_newq (C := zaC b) (N' := nn) hx hb hown (hbf.word w1) (va_AO.of (hbf.word (args := args) w2)) hKK hP hD hSh hA (by rw [e0]; exact nI_pos (by omega)) (by rw [e0]; exact nI_clamp (by omega)) (by omega) hbud.1 (by have := hbud.2; rw [Int.toNat_natCast] at this; exact this) hd ?_
      intro q cA' H1 K1 P1 D1 S1
      have hcA : cA' = cA b := by
        have r1 := (K1.2 5 (cA', .object (zaC b)) (by rfl)).2
        have r2 : va_RA s (cA b) (.object (zaC b)) := by
          rcases hb34 with rfl | rfl
          · exact (hKK.2 3 _ rfl).2
          · exact (hKK.2 4 _ rfl).2
        exact va_RA_inj r1 r2
      subst hcA
      have hfs : iE cA (zup al (hN h) q) (hNew h b (nn : Int) (nn : Int).toNat) (hN h) = .inl (cA b, nn, .inr (.inr (.inr (.inr (fun _ => none))))) := by
        rw [iE_ref (b := b) (by rw [htn]) hb34, htn]
        simp only [z2]
        rw [Int.toNat_natCast]
        rfl
      rw [← hfs] at P1 D1
      obtain ⟨X1, V1⟩ := HV.push V (by simp [reg]; omega) (by intro _; exact hn) P1 D1 S1
      have K := k (zup al (hN h) q) H1 locs X1 (Nat.le_succ _) (Nat.le_succ _) (Nat.le_add_right _ _) V1 rfl (fun w hw => by
        rcases List.mem_cons.mp hw with rfl | hw
        · exact Nat.lt_succ_self _
        · exact oV_mono (Nat.le_succ _) (S w (List.mem_cons_of_mem _ hw)))
      have e1 : (hNew h b (nn : Int) (nn : Int).toNat).1.2.1 - h.1.2.1 = 1 := by show h.1.2.1 + 1 - h.1.2.1 = 1; omega
      have e2 : (hNew h b (nn : Int) (nn : Int).toNat).1.2.2 - h.1.2.2 = nn := by show h.1.2.2 + (nn : Int).toNat - h.1.2.2 = nn; omega
      rw [hnx, e1, e2] at K
      have e3 : st.map (iV (zup al (hN h) q)) = st.map (iV al) := List.map_congr_left fun w hw => iV_ext X1 (S w (List.mem_cons_of_mem _ hw))
      simp only [List.map_cons, e3] at K
      have e5 : iV (zup al (hN h) q) (.inr (.inl (some (hN h)))) = .ref q := by simp [iV, zup]
      rw [e5] at K
      exact K
    · cases hz
  · -- arraylength
    rename_i i st
    obtain ⟨hnx, rfl, rfl⟩ := zok3_22 hk
    split at hz
    · rename_i htag
      cases hz
      have hi : i < hN h := S _ List.mem_cons_self
      by_cases h6 : (hK h i).1 = 6
      · obtain ⟨a1, a2, a3, a4, a5⟩ := hX i hi h6
        have K := k0 H locs rfl V rfl (fun w hw => by
          rcases List.mem_cons.mp hw with rfl | hw
          · exact ⟨by omega, a5⟩
          · exact S w (List.mem_cons_of_mem _ hw))
        rw [hnx] at K
        refine va_slen hx hb a1 a2 (by show ¬ B0 ≤ al i; omega) hSh hd ?_
        have e : Int32.ofNat (hK h i).2.toNat = Int32.ofInt (hK h i).2 := by
          show Int32.ofInt (((hK h i).2.toNat : Nat) : Int) = _
          rw [Int.toNat_of_nonneg a4]
        rw [e]
        exact K
      · have htag4 : (hK h i).1 ≤ 4 := by
          obtain ⟨g1, g2⟩ := htag; omega
        have hlen := hO.2.2 i htag4
        have K := k0 H locs rfl V rfl (fun w hw => by
          rcases List.mem_cons.mp hw with rfl | hw
          · exact ⟨by omega, by omega⟩
          · exact S w (List.mem_cons_of_mem _ hw))
        rw [hnx] at K
        have e : Int32.ofNat (hK h i).2.toNat = Int32.ofInt (hK h i).2 := by
          show Int32.ofInt (((hK h i).2.toNat : Nat) : Int) = _
          rw [Int.toNat_of_nonneg hlen.1]
        obtain ⟨q0, hL, hw⟩ := iW_at (cA := cA) (al := al) (h := h) hi (by simp [reg]; omega)
        rcases (show (hK h i).1 ≤ 1 ∨ (hK h i).1 = 2 ∨ (hK h i).1 = 3 ∨ (hK h i).1 = 4 by omega) with h9 | h9 | h9 | h9
        · rw [iE_arr rfl h9] at hw
          rcases (show (hK h i).1 = 0 ∨ (hK h i).1 = 1 by omega) with h8 | h8
          · rw [h8] at hw
            exact va_alen hx hb hKK hP q0 0 hw rfl e hd K
          · rw [h8] at hw
            exact va_alen hx hb hKK hP q0 1 hw rfl e hd K
        · rw [iE_lng h9] at hw
          exact va_alen hx hb hKK hP q0 2 hw rfl e hd K
        · rw [iE_ref h9 (Or.inl rfl)] at hw
          exact va_alen hx hb hKK hP q0 3 hw rfl e hd K
        · rw [iE_ref h9 (Or.inr rfl)] at hw
          exact va_alen hx hb hKK hP q0 4 hw rfl e hd K
    · cases hz
  · -- a number out of a row
    rename_i j i st
    obtain ⟨hnx, rfl, hins⟩ := zok3_23 hk
    split at hz
    · rename_i htag
      obtain ⟨htag, hj0, hj1⟩ := htag
      cases hz
      have hi : i < hN h := S _ (List.mem_cons_of_mem _ List.mem_cons_self)
      have K := k0 H locs rfl V rfl (fun w hw => by
        rcases List.mem_cons.mp hw with rfl | hw
        · split
          · exact hO.1 i j
          · exact hO.1 i j
        · exact S w (List.mem_cons_of_mem _ (List.mem_cons_of_mem _ hw)))
      rw [hnx] at K
      rcases htag with htag | ⟨rfl, h6⟩
      · have hlen := hO.2.2 i (by omega)
        obtain ⟨v1, v2⟩ := ixI hj0 hj1 (by omega)
        obtain ⟨q0, hL, hw⟩ := iW_at (cA := cA) (al := al) (h := h) hi (by simp [reg]; omega)
        have e9 : ((j.toNat : Nat) : Int) = j := Int.toNat_of_nonneg hj0
        rcases hins with ⟨rfl, rfl⟩ | ⟨rfl, rfl⟩ | ⟨rfl, rfl⟩
        · rw [iE_arr htag (by omega)] at hw
          refine va_iald hx hb hKK hP q0 0 hw rfl v1 hd ?_
          rw [v2, e9]
          exact K
        · rw [iE_arr htag (by omega)] at hw
          refine va_zald hx hb hKK hP q0 1 hw rfl v1 hd ?_
          rw [v2, e9]
          exact K
        · rw [iE_lng htag] at hw
          refine va_lald hx hb hKK hP q0 2 hw rfl v1 hd ?_
          rw [v2, e9]
          exact K
      · obtain ⟨a1, a2, a3, a4, a5⟩ := hX i hi h6
        obtain ⟨v1, v2⟩ := ixI hj0 hj1 (by omega)
        have e9 : ((j.toNat : Nat) : Int) = j := Int.toNat_of_nonneg hj0
        rcases hins with ⟨rfl, -⟩ | ⟨rfl, hb1⟩ | ⟨rfl, hb1⟩
        · refine va_sld hx hb a1 a2 (by show ¬ B0 ≤ al i; omega) hSh v1 hd ?_
          rw [v2, e9]
          exact K
        · cases hb1
        · cases hb1
    · cases hz
  · -- a number into a row
    rename_i x j i st
    obtain ⟨hnx, rfl, hins⟩ := zok3_24 hk
    split at hz
    · rename_i htag
      obtain ⟨htag, hj0, hj1, hsh⟩ := htag
      cases hz
      have hi : i < hN h := S _ (List.mem_cons_of_mem _ (List.mem_cons_of_mem _ List.mem_cons_self))
      have hx0 : rgI x := S _ List.mem_cons_self
      have hlen := hO.2.2 i (by omega)
      obtain ⟨v1, v2⟩ := ixI hj0 hj1 (by omega)
      obtain ⟨q0, hL, hw⟩ := iW_at (cA := cA) (al := al) (h := h) hi (by simp [reg]; omega)
      have hb1 : b ≤ 1 := by omega
      rw [iE_arr htag hb1] at hw
      have ho1 : oH (hSI h i j x) := ⟨fun a z => by
          show rgI (zu2 h.2.2.1 i j x a z)
          unfold zu2
          split
          · exact hx0
          · exact hO.1 a z, hO.2.1, hO.2.2⟩
      have e5 : iE cA al (hSI h i j x) i = .inl (cA b, (hK h i).2.toNat, .inl (upd (fun k : Nat => Int32.ofInt (hI h i k)) (Int32.ofInt j).toNatClampNeg (Int32.ofInt x))) := by
        rw [iE_arr (b := b) (h := hSI h i j x) htag hb1]
        congr 3
        · congr 1
          funext z
          show Int32.ofInt (zu2 h.2.2.1 i j x i z) = upd (fun k : Nat => Int32.ofInt (hI h i k)) (Int32.ofInt j).toNatClampNeg (Int32.ofInt x) z
          rw [v2]
          unfold zu2 upd
          by_cases hzj : z = j.toNat
          · rw [if_pos ⟨rfl, by omega⟩, if_pos hzj]
          · rw [if_neg (by rintro ⟨-, q⟩; omega), if_neg hzj]
            rfl
      have fin : ∀ (H1 : Heap) (locs1 : List Loc), va_P D zCl ((iW cA al h).set q0 (al i, iE cA al (hSI h i j x) i)) H1 → va_D (zA B0) ((iW cA al h).set q0 (al i, iE cA al (hSI h i j x) i)) → va_S (zA B0) H H1 locs1 → W p l e R s m args below meth c H1 locs1 cells slots Q (F0 m (pc + 1) lm (st1.map (iV al))) := by
        intro H1 locs1 P1 D1 S1
        have V1 := HV.put (h1 := hSI h i j x) V hL rfl rfl (fun z hz => by show (fun k => zu2 h.2.2.1 i j x z k) = h.2.2.1 z; funext k; simp [zu2, hz]) (fun z hz => rfl) ho1 P1 D1 S1
        have K := k0 H1 locs1 rfl V1 rfl (fun w hw => S w (List.mem_cons_of_mem _ (List.mem_cons_of_mem _ (List.mem_cons_of_mem _ hw))))
        rw [hnx] at K
        exact K
      rw [e5] at fin
      rcases hins with ⟨rfl, rfl⟩ | ⟨rfl, rfl⟩ | ⟨rfl, rfl⟩
      · exact va_iast hx hb hKK hP hD hSh q0 0 hw rfl v1 hd fin
      · have hnar : vp_nar .boolean (Int32.ofInt x) = Int32.ofInt x := by
          rcases (show x = 0 ∨ x = 1 by omega) with rfl | rfl <;> decide +kernel
        refine va_zast hx hb hKK hP hD hSh q0 1 hw rfl v1 hd ?_
        rw [hnar]
        exact fin
      · omega
    · cases hz
  · -- a long into a row
    rename_i x j i st
    obtain ⟨hnx, rfl, hins⟩ := zok3_24 hk
    split at hz
    · rename_i htag
      obtain ⟨htag, hj0, hj1, rfl⟩ := htag
      cases hz
      have hi : i < hN h := S _ (List.mem_cons_of_mem _ (List.mem_cons_of_mem _ List.mem_cons_self))
      have hx0 : rgI x := S _ List.mem_cons_self
      have hlen := hO.2.2 i (by omega)
      obtain ⟨v1, v2⟩ := ixI hj0 hj1 (by omega)
      obtain ⟨q0, hL, hw⟩ := iW_at (cA := cA) (al := al) (h := h) hi (by simp [reg]; omega)
      rw [iE_lng htag] at hw
      have ho1 : oH (hSI h i j x) := ⟨fun a z => by
          show rgI (zu2 h.2.2.1 i j x a z)
          unfold zu2
          split
          · exact hx0
          · exact hO.1 a z, hO.2.1, hO.2.2⟩
      have e5 : iE cA al (hSI h i j x) i = .inl (cA 2, (hK h i).2.toNat, .inr (.inl (vp_updL (fun k : Nat => Int64.ofInt (hI h i k)) (Int32.ofInt j).toNatClampNeg (Int64.ofInt x)))) := by
        rw [iE_lng (h := hSI h i j x) htag]
        congr 4
        · congr 1
          funext z
          show Int64.ofInt (zu2 h.2.2.1 i j x i z) = vp_updL (fun k : Nat => Int64.ofInt (hI h i k)) (Int32.ofInt j).toNatClampNeg (Int64.ofInt x) z
          rw [v2]
          unfold zu2 vp_updL
          by_cases hzj : z = j.toNat
          · rw [if_pos ⟨rfl, by omega⟩, if_pos hzj]
          · rw [if_neg (by rintro ⟨-, q⟩; omega), if_neg hzj]
            rfl
      have fin : ∀ (H1 : Heap) (locs1 : List Loc), va_P D zCl ((iW cA al h).set q0 (al i, iE cA al (hSI h i j x) i)) H1 → va_D (zA B0) ((iW cA al h).set q0 (al i, iE cA al (hSI h i j x) i)) → va_S (zA B0) H H1 locs1 → W p l e R s m args below meth c H1 locs1 cells slots Q (F0 m (pc + 1) lm (st1.map (iV al))) := by
        intro H1 locs1 P1 D1 S1
        have V1 := HV.put (h1 := hSI h i j x) V hL rfl rfl (fun z hz => by show (fun k => zu2 h.2.2.1 i j x z k) = h.2.2.1 z; funext k; simp [zu2, hz]) (fun z hz => rfl) ho1 P1 D1 S1
        have K := k0 H1 locs1 rfl V1 rfl (fun w hw => S w (List.mem_cons_of_mem _ (List.mem_cons_of_mem _ (List.mem_cons_of_mem _ hw))))
        rw [hnx] at K
        exact K
      rw [e5] at fin
      rcases hins with ⟨rfl, hb1⟩ | ⟨rfl, hb1⟩ | ⟨rfl, hb1⟩
      · cases hb1
      · cases hb1
      · exact va_last hx hb hKK hP hD hSh q0 2 hw rfl v1 hd fin
    · cases hz
  · -- a reference out of a row
    rename_i j i st
    obtain ⟨hnx, rfl, rfl⟩ := zok3_25 hk
    split at hz
    · rename_i htag
      obtain ⟨htag, hj0, hj1⟩ := htag
      cases hz
      have hi : i < hN h := S _ (List.mem_cons_of_mem _ List.mem_cons_self)
      have K := k0 H locs rfl V rfl (fun w hw => by
        rcases List.mem_cons.mp hw with rfl | hw
        · show oV (hN h) (.inr (.inl (hR h i j)))
          cases hx9 : hR h i j with
          | none => trivial
          | some r => exact hO.2.1 i j r hx9
        · exact S w (List.mem_cons_of_mem _ (List.mem_cons_of_mem _ hw)))
      rw [hnx] at K
      have hlen := hO.2.2 i (by omega)
      obtain ⟨v1, v2⟩ := ixI hj0 hj1 (by omega)
      obtain ⟨q0, hL, hw⟩ := iW_at (cA := cA) (al := al) (h := h) hi (by simp [reg]; omega)
      have e9 : ((j.toNat : Nat) : Int) = j := Int.toNat_of_nonneg hj0
      have e8 : va_rf ((hR h i j).map al) = iV al (.inr (.inl (hR h i j))) := by cases hR h i j <;> rfl
      rcases htag with htag | htag
      · rw [iE_ref htag (Or.inl rfl)] at hw
        refine va_aldq hx hb hKK hP q0 3 hw rfl v1 hd ?_
        rw [v2, e9, e8]
        exact K
      · rw [iE_ref htag (Or.inr rfl)] at hw
        refine va_aldq hx hb hKK hP q0 4 hw rfl v1 hd ?_
        rw [v2, e9, e8]
        exact K
    · cases hz
  · -- a reference into a row
    rename_i r j i st
    obtain ⟨hnx, rfl, rfl⟩ := zok3_26 hk
    split at hz
    · rename_i htag
      obtain ⟨htag, hj0, hj1, hvt⟩ := htag
      cases hz
      have hi : i < hN h := S _ (List.mem_cons_of_mem _ (List.mem_cons_of_mem _ List.mem_cons_self))
      have hr0 : r < hN h := S _ List.mem_cons_self
      have hlen := hO.2.2 i (by omega)
      obtain ⟨v1, v2⟩ := ixI hj0 hj1 (by omega)
      obtain ⟨q0, hL, hw⟩ := iW_at (cA := cA) (al := al) (h := h) hi (by simp [reg]; omega)
      obtain ⟨qk, hLk, hwk⟩ := iW_at (cA := cA) (al := al) (h := h) hr0 (by rw [hvt]; simp [reg])
      rw [iE_obj hvt] at hwk
      have ho1 : oH (hSR h i j (some r)) := ⟨hO.1, fun a z x hz => by
          have hz : zu2 h.2.2.2 i j (some r) a z = some x := hz
          unfold zu2 at hz
          split at hz
          · cases hz; exact hr0
          · exact hO.2.1 a z x hz, hO.2.2⟩
      have e5 : ∀ b, (hK h i).1 = b → (b = 3 ∨ b = 4) → iE cA al (hSR h i j (some r)) i = .inl (cA b, (hK h i).2.toNat, .inr (.inr (.inr (.inr (va_up (fun k : Nat => (hR h i k).map al) (Int32.ofInt j).toNatClampNeg (some (al r))))))) := by
        intro b hb5 hb6
        have hfun : (fun k : Nat => (hR (hSR h i j (some r)) i k).map al) = va_up (fun k : Nat => (hR h i k).map al) (Int32.ofInt j).toNatClampNeg (some (al r)) := by
          funext z
          show (zu2 h.2.2.2 i j (some r) i z).map al = va_up (fun k : Nat => (hR h i k).map al) (Int32.ofInt j).toNatClampNeg (some (al r)) z
          rw [v2]
          unfold zu2 va_up
          by_cases hzj : z = j.toNat
          · rw [if_pos ⟨rfl, by omega⟩, if_pos hzj]
            rfl
          · rw [if_neg (by rintro ⟨-, q⟩; omega), if_neg hzj]
            rfl
        rw [iE_ref (b := b) (h := hSR h i j (some r)) hb5 hb6, hfun]
        rfl
      have fin : ∀ (H1 : Heap) (locs1 : List Loc), va_P D zCl ((iW cA al h).set q0 (al i, iE cA al (hSR h i j (some r)) i)) H1 → va_D (zA B0) ((iW cA al h).set q0 (al i, iE cA al (hSR h i j (some r)) i)) → va_S (zA B0) H H1 locs1 → W p l e R s m args below meth c H1 locs1 cells slots Q (F0 m (pc + 1) lm (st1.map (iV al))) := by
        intro H1 locs1 P1 D1 S1
        have V1 := HV.put (h1 := hSR h i j (some r)) V hL rfl rfl (fun z hz => rfl) (fun z hz => by show (fun k => zu2 h.2.2.2 i j (some r) z k) = h.2.2.2 z; funext k; simp [zu2, hz]) ho1 P1 D1 S1
        have K := k0 H1 locs1 rfl V1 rfl (fun w hw => S w (List.mem_cons_of_mem _ (List.mem_cons_of_mem _ (List.mem_cons_of_mem _ hw))))
        rw [hnx] at K
        exact K
      rcases htag with htag | htag
      · rw [e5 3 htag (Or.inl rfl)] at fin
        rw [iE_ref htag (Or.inl rfl)] at hw
        rw [htag] at hwk
        exact va_astq hx hb hKK hP hD hSh q0 3 qk 5 hw rfl hwk (zcl_at 5 (by decide)) v1 hd fin
      · rw [e5 4 htag (Or.inr rfl)] at fin
        rw [iE_ref htag (Or.inr rfl)] at hw
        rw [htag] at hwk
        exact va_astq hx hb hKK hP hD hSh q0 4 qk 4 hw rfl hwk (zcl_at 4 (by decide)) v1 hd fin
    · cases hz
  · cases hz
end S3
