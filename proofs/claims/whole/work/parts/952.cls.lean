/-! ===== the law (4): the loop, the start, the end ===== -/
theorem b161_180 {h : HP} {I : Nat → Int → Int} {x1 : Int} : Go 161 180 [.inr (.inl (some 94)), .inl x1] [] (mI h I) = if 240 ≤ x1 then Go 161 190 [.inr (.inl (some 94)), .inl x1] [] (mI h I) else Go 161 183 [.inr (.inl (some 94)), .inl x1] [] (mI h I) := by
  refine (Go_iload (h := mI h I) (y := 161) (ip := 180) (a := 0) (b := 1) (c := 0) (by decide +kernel) rfl).trans ?_
  refine (Go_const (h := mI h I) (y := 161) (ip := 181) (a := 240) (b := 0) (c := 0) (by decide +kernel)).trans ?_
  refine (Go_cmpge (y := 161) (ip := 182) (a := 0) (c := 190) (by decide +kernel)).trans ?_
  rfl
theorem b161_183 {h : HP} {I : Nat → Int → Int} {x1 : Int} (p0 : LX 11 h 94) (p1 : 0 ≤ x1 ∧ x1 < 240) (p2 : -2147483648 ≤ x1 + 1 ∧ x1 + 1 < 2147483648) : Go 161 183 [.inr (.inl (some 94)), .inl x1] [] (mI h I) = Go 161 180 [.inr (.inl (some 94)), .inl (x1 + 1)] [] (mI h (zu2 I 126 x1 (-1000))) := by
  refine (Go_aload (h := mI h I) (y := 161) (ip := 183) (a := 0) (b := 0) (c := 0) (by decide +kernel) rfl).trans ?_
  refine (Go_getR2 (r1 := some 126) (h := mI h I) (y := 161) (ip := 184) (a := 158) (b := 11) (c := 35) (by decide +kernel) rfl (LX_t p0) (LX_r p0 35 false 32 0 240 rfl)).trans ?_
  refine (Go_iload (h := mI h I) (y := 161) (ip := 185) (a := 0) (b := 1) (c := 0) (by decide +kernel) rfl).trans ?_
  refine (Go_const (h := mI h I) (y := 161) (ip := 186) (a := (-1000)) (b := 0) (c := 0) (by decide +kernel)).trans ?_
  refine (Go_ast (h := mI h I) (y := 161) (ip := 187) (a := 0) (b := 0) (c := 0) (by decide +kernel) (LX_k p0 35 false 32 0 240 rfl) p1 (Or.inl rfl)).trans ?_
  refine (Go_iinc (h := mI h (zu2 I 126 x1 (-1000))) (y := 161) (ip := 188) (a := 1) (b := 1) (c := 0) (by decide +kernel) rfl p2).trans ?_
  refine (Go_goto (h := mI h (zu2 I 126 x1 (-1000))) (y := 161) (ip := 189) (a := 0) (b := 0) (c := 180) (by decide +kernel)).trans ?_
  rfl
theorem b161_190 {h : HP} {I : Nat → Int → Int} {x1 : Int} : Go 161 190 [.inr (.inl (some 94)), .inl x1] [] (mI h I) = some (mI h I, .inl none) := by
  refine (Go_vret (h := mI h I) (y := 161) (ip := 190) (a := 0) (b := 0) (c := 0) (by decide +kernel) rfl).trans ?_
  rfl
theorem aK_0 {L : Int} : ∀ l : List (Nat × Int), aK L l 0 = (6, L)
  | [] => rfl
  | v :: l => by
    show (if 0 = l.length + 1 then v else aK L l 0) = (6, L)
    rw [if_neg (by omega)]
    exact aK_0 l
def row0 : List WOp → Bool
  | [] => true
  | .inl b :: w => decide (b ≠ 0) && row0 w
  | .inr (.inl (b, _, _)) :: w => decide (b ≠ 0) && row0 w
  | .inr (.inr (b, _, _)) :: w => decide (b ≠ 0) && row0 w
theorem row0_X {X : Nat → Int → Int} : ∀ w : List WOp, row0 w = true → aI X w 0 = X 0
  | [], _ => rfl
  | .inl b :: w, h => by
    unfold row0 at h
    simp only [Bool.and_eq_true, decide_eq_true_eq] at h
    unfold aI
    rw [rowU_ne (Ne.symm h.1)]
    exact row0_X w h.2
  | .inr (.inl (b, _, _)) :: w, h => by
    unfold row0 at h
    simp only [Bool.and_eq_true, decide_eq_true_eq] at h
    unfold aI
    rw [rowU_ne (Ne.symm h.1)]
    exact row0_X w h.2
  | .inr (.inr (b, _, _)) :: w, h => by
    unfold row0 at h
    simp only [Bool.and_eq_true, decide_eq_true_eq] at h
    unfold aI
    rw [zu2_row, rowU_ne (Ne.symm h.1)]
    exact row0_X w h.2
section FIN
variable {L : Int} {X : Nat → Int → Int}
theorem cx_go {k e y ip : Nat} {ls st l1 s1 : List MV} {S S1 : MkS} (h : cx k e y ip ls st S = some (some (l1, s1), S1)) : Go y ip ls st (cHP L X S) = Go y e l1 s1 (cHP L X S1) := cx_ok k e y ip ls st S _ _ h
theorem lx_G {S : MkS} {ci a : Nat} (h : lxc S ci a = true) : LX ci (hG L S) a := lxc_L (L := L) (X := fun _ _ => 0) (S := S) h
theorem hG_0 {S : MkS} : hK (hG L S) 0 = (6, L) := aK_0 S.1
theorem iG_0 {S : MkS} (h : row0 S.2.2.1 = true) : iG X S 0 = X 0 := row0_X _ h
theorem hG_c {S : MkS} : (hG L S).1.2.1 = S.2.2.2.1 ∧ (hG L S).1.2.2 = S.2.2.2.2 := ⟨rfl, rfl⟩
theorem cFl_G {S : MkS} {a : Nat} {k x : Int} : mI (hG L S) (rowU (iG X S) a (fillR (iG X S a) 0 k (fun _ => x))) = cHP L X (cFl S a k x) := rfl
theorem ref_0 : Go 161 0 [.inr (.inl (some 94)), vU] [] (cHP L X cS1) = some (cHP L X (cFl cS2 126 240 (-1000)), .inl none) := by
  have e1 : Go 161 0 [.inr (.inl (some 94)), vU] [] (cHP L X cS1) = Go 161 178 [.inr (.inl (some 94)), vU] [] (cHP L X cS2) := cx_go cx2
  have L11 : ∀ J : Nat → Int → Int, LX 11 (hG L cS2) 94 := fun _ => lx_G (by decide +kernel)
  rw [e1, cHP_G]
  refine (Go_const (h := mI (hG L cS2) (iG X cS2)) (y := 161) (ip := 178) (a := 0) (b := 0) (c := 0) (by decide +kernel)).trans ?_
  refine (Go_istore (h := mI (hG L cS2) (iG X cS2)) (y := 161) (ip := 179) (a := 0) (b := 1) (c := 0) (by decide +kernel) rfl).trans ?_
  show Go 161 180 [.inr (.inl (some 94)), .inl 0] [] (mI (hG L cS2) (iG X cS2)) = _
  have key := lpU (fun k => Go 161 180 [.inr (.inl (some 94)), .inl k] [] (mI (hG L cS2) (rowU (iG X cS2) 126 (fillR (iG X cS2 126) 0 k (fun _ => -1000))))) 0 240 (by decide) ?_
  · rw [fillR_0 (by decide), rowU_id] at key
    rw [key, b161_180, if_pos (by decide), b161_190, cFl_G]
  · intro k k0 k1
    rw [b161_180, if_neg (by omega), b161_183 (L11 (fun _ _ => 0)) (by omega) (by omega), zu2_row, rowU_tw, rowU_eq, fillR_s k0 rfl]
theorem law_0 : Go 315 0 lw0 [] (cHP L X cS0) = Go 315 13 [.inr (.inl (some 0)), .inr (.inl (some 1)), .inr (.inl (some 94)), .inr (.inl (some 139)), .inl 0, vU, vU] [] (mI (hG L cS3) (iG X cS3)) := by
  have e1 : Go 315 0 lw0 [] (cHP L X cS0) = Go 315 6 lw1 [.inr (.inl (some 94)), .inr (.inl (some 94))] (cHP L X cS1) := cx_go cx1
  have e3 : Go 315 8 lw2 [] (cHP L X (cFl cS2 126 240 (-1000))) = Go 315 11 lw3 [] (cHP L X cS3) := cx_go cx3
  rw [e1]
  refine (Go_call2 (h := cHP L X cS1) (y := 315) (ip := 6) (a := 273) (z := 161) (c := 2) (as := [.inr (.inl (some 94))]) (rest := [.inr (.inl (some 94))]) (by decide +kernel) (by decide +kernel) rfl rfl (by
    have z : zKd 161 = 2 := by decide +kernel
    unfold zrecv
    rw [z]
    rfl) rfl).trans ?_
  show caln 315 lw1 [.inr (.inl (some 94))] 7 (Go 161 0 [.inr (.inl (some 94)), vU] [] (cHP L X cS1)) = _
  rw [ref_0, caln_v]
  refine (Go_astore (h := cHP L X (cFl cS2 126 240 (-1000))) (y := 315) (ip := 7) (a := 0) (b := 2) (c := 0) (by decide +kernel) rfl).trans ?_
  show Go 315 8 lw2 [] (cHP L X (cFl cS2 126 240 (-1000))) = _
  rw [e3, cHP_G]
  refine (Go_const (h := mI (hG L cS3) (iG X cS3)) (y := 315) (ip := 11) (a := 0) (b := 0) (c := 0) (by decide +kernel)).trans ?_
  refine (Go_istore (h := mI (hG L cS3) (iG X cS3)) (y := 315) (ip := 12) (a := 0) (b := 4) (c := 0) (by decide +kernel) rfl).trans ?_
  rfl
theorem LI_0 : LI L (X 0) 0 (hG L cS3) (iG X cS3) := by
  have E := EV_3 (L := L) (X := X)
  have e : ((0 : Nat) : Int) = 0 := rfl
  have r0 : iG X cS3 0 = X 0 := iG_0 (by decide +kernel)
  unfold LI
  rw [e, hG_c.1, hG_c.2]
  exact ⟨E.1, E.2, hG_0, r0, Nat.le_trans spent_3.1 (Nat.le_add_right _ _), Nat.le_trans spent_3.2 (Nat.le_add_right _ _)⟩
theorem LI_s {X : Int → Int} {n : Nat} {h : HP} {I : Nat → Int → Int} (J : LI L X n h I) : LI L X (n + 1) h I := by
  obtain ⟨E, S, k0, i0, c1, c2⟩ := J
  exact ⟨⟨E.1, E.2.1, E.2.2.1, INV_s E.2.2.2⟩, S, k0, i0, by omega, law_s (Nat.le_add_right _ _) c2⟩
def swl : List Nat := zsw.getD 1 []
theorem swl_e : swl = [25, 60, 67, 102, 137, 212, 257, 264, 299, 334, 379, 434, 479, 514, 549, 594, 629, 694, 732, 777, 812, 860, 908, 963, 1018, 1053, 1098, 1133, 1178, 1223, 1278, 1313, 1358, 1403, 1458, 1506, 1541, 1548, 1621, 1666, 1711, 1746, 1791] := by decide +kernel
theorem law_loop {X : Int → Int} (hL : L ≤ 3072) (hL0 : -100 ≤ L) : ∀ (k n : Nat) (h : HP) (I : Nat → Int → Int) (v5 v6 : MV), n ≤ 512 → 512 ≤ n + k → LI L X n h I → ∃ hf, Go 315 13 [.inr (.inl (some 0)), .inr (.inl (some 1)), .inr (.inl (some 94)), .inr (.inl (some 139)), .inl (6 * (n : Int)), v5, v6] [] (mI h I) = some (hf, .inl (some (.inl 1))) ∧ hf.1.2.1 ≤ 139 + 40 * 512 ∧ hf.1.2.2 ≤ 41044 + 4000 * 512 := by
  intro k
  induction k with
  | zero =>
    intro n h I v5 v6 n1 n2 J
    have hn : n = 512 := by omega
    rw [b315_13 J.2.2.1 (by omega), if_pos (by omega), b315_1828]
    subst hn
    exact ⟨_, rfl, J.2.2.2.2.1, J.2.2.2.2.2⟩
  | succ k ih =>
    intro n h I v5 v6 n1 n2 J
    rw [b315_13 J.2.2.1 (by omega)]
    by_cases c : L - 6 < 6 * (n : Int)
    · rw [if_pos c, b315_1828]
      refine ⟨_, rfl, Nat.le_trans J.2.2.2.2.1 (Nat.add_le_add_left (Nat.mul_le_mul_left 40 n1) 139), Nat.le_trans J.2.2.2.2.2 (Nat.add_le_add_left (Nat.mul_le_mul_left 4000 n1) 41044)⟩
    · have hn : n < 512 := by omega
      have h4 : 0 ≤ 6 * (n : Int) ∧ 6 * (n : Int) + 6 ≤ L ∧ L ≤ 3072 := by omega
      rw [if_neg c, b315_19 J.2.2.1 (by omega)]
      obtain ⟨u, hu⟩ : ∃ u, u = zand (I 0 (6 * (n : Int))) 63 := ⟨_, rfl⟩
      rw [← hu]
      have key : ∃ h2 I3 y5 y6, Go 315 (if 0 ≤ u ∧ u < ((zsw.getD 1 []).length : Int) then (zsw.getD 1 []).getD u.toNat 0 else 1826) [.inr (.inl (some 0)), .inr (.inl (some 1)), .inr (.inl (some 94)), .inr (.inl (some 139)), .inl (6 * (n : Int)), v5, v6] [] (mI h I) = Go 315 1826 [.inr (.inl (some 0)), .inr (.inl (some 1)), .inr (.inl (some 94)), .inr (.inl (some 139)), .inl (6 * (n : Int)), y5, y6] [] (mI h2 I3) ∧ LI L X (n + 1) h2 I3 := by
        by_cases hc : 0 ≤ u ∧ u < ((zsw.getD 1 []).length : Int)
        · rw [if_pos hc]
          have hlt : u.toNat < swl.length := by
            show u.toNat < (zsw.getD 1 []).length
            omega
          have hm : (zsw.getD 1 []).getD u.toNat 0 ∈ swl := by
            show swl.getD u.toNat 0 ∈ swl
            unfold List.getD
            rw [List.getElem?_eq_getElem hlt]
            exact List.getElem_mem hlt
          obtain ⟨t, ht⟩ : ∃ t, t = (zsw.getD 1 []).getD u.toNat 0 := ⟨_, rfl⟩
          rw [← ht] at hm ⊢
          rw [swl_e] at hm
          simp only [List.mem_cons, List.not_mem_nil, or_false] at hm
          obtain rfl | rfl | rfl | rfl | rfl | rfl | rfl | rfl | rfl | rfl | rfl | rfl | rfl | rfl | rfl | rfl | rfl | rfl | rfl | rfl | rfl | rfl | rfl | rfl | rfl | rfl | rfl | rfl | rfl | rfl | rfl | rfl | rfl | rfl | rfl | rfl | rfl | rfl | rfl | rfl | rfl | rfl | rfl := hm
          · exact l25 J hn h4
          · exact l60 J hn h4
          · exact l67 J hn h4
          · exact l102 J hn h4
          · exact l137 J hn h4
          · exact l212 J hn h4
          · exact l257 J hn h4
          · exact l264 J hn h4
          · exact l299 J hn h4
          · exact l334 J hn h4
          · exact l379 J hn h4
          · exact l434 J hn h4
          · exact l479 J hn h4
          · exact l514 J hn h4
          · exact l549 J hn h4
          · exact l594 J hn h4
          · exact l629 J hn h4
          · exact l694 J hn h4
          · exact l732 J hn h4
          · exact l777 J hn h4
          · exact l812 J hn h4
          · exact l860 J hn h4
          · exact l908 J hn h4
          · exact l963 J hn h4
          · exact l1018 J hn h4
          · exact l1053 J hn h4
          · exact l1098 J hn h4
          · exact l1133 J hn h4
          · exact l1178 J hn h4
          · exact l1223 J hn h4
          · exact l1278 J hn h4
          · exact l1313 J hn h4
          · exact l1358 J hn h4
          · exact l1403 J hn h4
          · exact l1458 J hn h4
          · exact l1506 J hn h4
          · exact l1541 J hn h4
          · exact l1548 J hn h4
          · exact l1621 J hn h4
          · exact l1666 J hn h4
          · exact l1711 J hn h4
          · exact l1746 J hn h4
          · exact l1791 J hn h4
        · rw [if_neg hc]
          exact ⟨h, I, v5, v6, rfl, LI_s J⟩
      obtain ⟨h2, I3, y5, y6, e, J2⟩ := key
      obtain ⟨hf, e2, q1, q2⟩ := ih (n + 1) h2 I3 y5 y6 (by omega) (by omega) J2
      refine ⟨hf, ?_, q1, q2⟩
      rw [e, b315_1826 (by omega), ← e2]
      rw [show (6 : Int) * (n : Int) + 6 = 6 * ((n + 1 : Nat) : Int) by omega]
end FIN
/-- the law's script as the small machine's heap: object 0 -/
def h0 (L : Nat) (xs : Nat → Int32) : HP := ((1, 0, 0), fun _ => (6, (L : Int)), fun _ j => (xs j.toNat).toInt, fun _ _ => none)
def PureOK : Prop := ∀ (L : Nat) (xs : Nat → Int32), L ≤ 3072 → ∃ (n : Nat) (hf : HP), ex n 315 0 (zpad 315 [.inr (.inl (some 0))]) [] (h0 L xs) = some (hf, .inl (some (.inl 1))) ∧ hf.1.2.1 ≤ 601024 ∧ hf.1.2.2 ≤ 7293034
theorem pure_ok : PureOK := by
  intro L xs hL
  have ez : zpad 315 [.inr (.inl (some 0))] = lw0 := by decide +kernel
  have e0 : h0 L xs = cHP (L : Int) (fun _ j => (xs j.toNat).toInt) cS0 := rfl
  obtain ⟨hf, e1, q1, q2⟩ := law_loop (L := (L : Int)) (X := fun j => (xs j.toNat).toInt) (by omega) (by omega) 512 0 (hG L cS3) (iG (fun _ j => (xs j.toNat).toInt) cS3) vU vU (by decide) (by decide) (LI_0 (X := fun _ j => (xs j.toNat).toInt))
  have e2 : Go 315 0 (zpad 315 [.inr (.inl (some 0))]) [] (h0 L xs) = some (hf, .inl (some (.inl 1))) := by
    rw [ez, e0, law_0]
    exact e1
  obtain ⟨n, hn⟩ := Go_ex e2
  exact ⟨n, hf, hn, Nat.le_trans q1 (by decide), Nat.le_trans q2 (by decide)⟩
