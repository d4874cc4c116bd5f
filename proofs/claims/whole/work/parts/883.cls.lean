/-! ===== the class (13): new notes, new packs ===== -/
theorem hR_fa {h : HP} {a k t : Nat} {n : Int} {b : Nat} {j : Int} (hb : b ≠ hN h) : hR (hfa h a k t n) b j = if b = a ∧ j = k then some (hN h) else hR h b j := by
  show (if b = a ∧ j = (k : Int) then some (hN h) else (if b = hN h then fun _ => none else hR h b) j) = _
  rw [if_neg hb]
theorem hK_fa {h : HP} {a k t : Nat} {n : Int} {b : Nat} : hK (hfa h a k t n) b = if b = hN h then (t, n) else hK h b := rfl
theorem hN_fa {h : HP} {a k t : Nat} {n : Int} : hN (hfa h a k t n) = hN h + 1 := rfl
theorem hK_nw {h : HP} {t s : Nat} {n : Int} {b : Nat} : hK (hNew h t n s) b = if b = hN h then (t, n) else hK h b := rfl
theorem hN_nw {h : HP} {t s : Nat} {n : Int} : hN (hNew h t n s) = hN h + 1 := rfl
theorem hR_nw {h : HP} {t s : Nat} {n : Int} {b : Nat} {j : Int} (hb : b ≠ hN h) : hR (hNew h t n s) b j = hR h b j := by
  show (if b = hN h then fun _ => none else hR h b) j = _
  rw [if_neg hb]
theorem mI_nw {h : HP} {I : Nat → Int → Int} {t s : Nat} {n : Int} : hNew (mI h I) t n s = mI (hNew h t n s) (rowU I (hN h) (fun _ => 0)) := rfl
def nuN (h : HP) : HP := hfa (hfa (hfa (hfa (hNew h 14 0 5) (hN h) 0 0 6) (hN h) 1 0 100) (hN h) 2 1 100) (hN h) 3 1 100
def nuM (I : Nat → Int → Int) (n : Nat) : Nat → Int → Int := rowU (rowU (rowU (rowU (rowU I n (fun _ => 0)) (n + 1) (fun _ => 0)) (n + 2) (fun _ => 0)) (n + 3) (fun _ => 0)) (n + 4) (fun _ => 0)
theorem nuN_K (h : HP) (b : Nat) : hK (nuN h) b = if b = hN h + 4 ∨ b = hN h + 3 then (1, 100) else if b = hN h + 2 then (0, 100) else if b = hN h + 1 then (0, 6) else if b = hN h then (14, 0) else hK h b := by
  show (if b = hN h + 4 then ((1, 100) : Nat × Int) else if b = hN h + 3 then (1, 100) else if b = hN h + 2 then (0, 100) else if b = hN h + 1 then (0, 6) else if b = hN h then (14, 0) else hK h b) = _
  by_cases q1 : b = hN h + 4
  · subst q1; rw [if_pos rfl, if_pos (Or.inl rfl)]
  · rw [if_neg q1]
    by_cases q2 : b = hN h + 3
    · subst q2; rw [if_pos rfl, if_pos (Or.inr rfl)]
    · rw [if_neg q2, if_neg (show ¬(b = hN h + 4 ∨ b = hN h + 3) by omega)]
theorem nuN_R (h : HP) (b : Nat) (j : Int) (hb : b < hN h) : hR (nuN h) b j = hR h b j := by
  unfold nuN
  rw [hR_fa (by rw [hN_fa, hN_fa, hN_fa, hN_nw]; omega), if_neg (by omega), hR_fa (by rw [hN_fa, hN_fa, hN_nw]; omega), if_neg (by omega), hR_fa (by rw [hN_fa, hN_nw]; omega), if_neg (by omega), hR_fa (by rw [hN_nw]; omega), if_neg (by omega), hR_nw (by omega)]
theorem nuN_L (h : HP) : LX 4 (nuN h) (hN h) := by
  have r : ∀ j, hR (nuN h) (hN h) j = if j = 3 then some (hN h + 4) else if j = 2 then some (hN h + 3) else if j = 1 then some (hN h + 2) else if j = 0 then some (hN h + 1) else none := by
    intro j
    unfold nuN
    rw [hR_fa (by rw [hN_fa, hN_fa, hN_fa, hN_nw]; omega), hR_fa (by rw [hN_fa, hN_fa, hN_nw]; omega), hR_fa (by rw [hN_fa, hN_nw]; omega), hR_fa (by rw [hN_nw]; omega)]
    simp only [true_and, hN_fa, hN_nw]
    have e : hR (hNew h 14 0 5) (hN h) j = none := by
      show (if hN h = hN h then fun _ => none else hR h (hN h)) j = none
      rw [if_pos rfl]
    rw [e]
    rfl
  refine ⟨by rw [nuN_K, if_neg (by omega), if_neg (by omega), if_neg (by omega), if_pos rfl], fun q hq => ?_⟩
  simp only [zlay, List.mem_cons, List.not_mem_nil, or_false] at hq
  obtain q0 | q0 | q0 | q0 := hq
  · subst q0
    refine ⟨r 0, ?_⟩
    show hK (nuN h) (hN h + 1) = _
    rw [nuN_K, if_neg (by omega), if_neg (by omega), if_pos rfl]
  · subst q0
    refine ⟨r 1, ?_⟩
    show hK (nuN h) (hN h + 2) = _
    rw [nuN_K, if_neg (by omega), if_pos rfl]
  · subst q0
    refine ⟨r 2, ?_⟩
    show hK (nuN h) (hN h + 3) = _
    rw [nuN_K, if_pos (Or.inr rfl)]
  · subst q0
    refine ⟨r 3, ?_⟩
    show hK (nuN h) (hN h + 4) = _
    rw [nuN_K, if_pos (Or.inl rfl)]
theorem nuN_X (h : HP) : XT h (nuN h) 5 311 := by
  refine ⟨?_, fun a ha => ⟨?_, fun _ => funext fun j => nuN_R h a j ha⟩, Nat.le_refl _, Nat.le_refl _⟩
  · show hN h ≤ hN h + 1 + 1 + 1 + 1 + 1
    omega
  · rw [nuN_K, if_neg (by omega), if_neg (by omega), if_neg (by omega), if_neg (by omega)]
/-- new notes -/
def nwN (I : Nat → Int → Int) (n : Nat) : Nat → Int → Int := rowU (rowU (nuM I n) (n + 1) (fillR (nuM I n (n + 1)) 0 6 (fun _ => -1))) (n + 2) (fillR (nuM I n (n + 2)) 0 100 (fun _ => -1))
theorem k53 {h : HP} {I : Nat → Int → Int} : Go 53 0 [.inr (.inl (some ((hN h))))] [] (hNew (mI h I) 14 0 5) = some (mI (nuN h) (nwN I (hN h)), .inl none) := by
  have L := nuN_L h
  obtain ⟨n, hn⟩ : ∃ n, n = hN h := ⟨_, rfl⟩
  rw [mI_nw]
  refine (Go_aload (h := mI _ _) (y := 53) (ip := 0) (a := 0) (b := 0) (c := 0) (by decide +kernel) rfl).trans ?_
  refine (Go_objinit (h := mI _ _) (y := 53) (ip := 1) (a := 4) (b := 0) (c := 0) (by decide +kernel) rfl).trans ?_
  refine (Go_fa (ip := 2) (p := 38) (k := 0) (t := 0) (n := 6) (ci := 4) (by decide +kernel) (by decide +kernel) (by decide +kernel) (by decide +kernel) rfl (by decide) (by rw [hN_nw]; omega) (by rw [hK_nw, if_pos rfl])).trans ?_
  refine (Go_fa (ip := 6) (p := 39) (k := 1) (t := 0) (n := 100) (ci := 4) (by decide +kernel) (by decide +kernel) (by decide +kernel) (by decide +kernel) rfl (by decide) (by rw [hN_fa, hN_nw]; omega) (by rw [hK_fa, if_neg (by rw [hN_nw]; omega), hK_nw, if_pos rfl])).trans ?_
  refine (Go_fa (ip := 10) (p := 40) (k := 2) (t := 1) (n := 100) (ci := 4) (by decide +kernel) (by decide +kernel) (by decide +kernel) (by decide +kernel) rfl (by decide) (by rw [hN_fa, hN_fa, hN_nw]; omega) (by rw [hK_fa, if_neg (by rw [hN_fa, hN_nw]; omega), hK_fa, if_neg (by rw [hN_nw]; omega), hK_nw, if_pos rfl])).trans ?_
  refine (Go_fa (ip := 14) (p := 41) (k := 3) (t := 1) (n := 100) (ci := 4) (by decide +kernel) (by decide +kernel) (by decide +kernel) (by decide +kernel) rfl (by decide) (by rw [hN_fa, hN_fa, hN_fa, hN_nw]; omega) (by rw [hK_fa, if_neg (by rw [hN_fa, hN_fa, hN_nw]; omega), hK_fa, if_neg (by rw [hN_fa, hN_nw]; omega), hK_fa, if_neg (by rw [hN_nw]; omega), hK_nw, if_pos rfl])).trans ?_
  show Go 53 18 [.inr (.inl (some ((hN h))))] [] (mI (nuN h) (nuM I (hN h))) = _
  refine (Go_aload (h := mI (nuN h) (nuM I (hN h))) (y := 53) (ip := 18) (a := 0) (b := 0) (c := 0) (by decide +kernel) rfl).trans ?_
  refine (Go_getR2 (r1 := some (hN h + 1)) (h := mI (nuN h) (nuM I (hN h))) (y := 53) (ip := 19) (a := 38) (b := 4) (c := 0) (by decide +kernel) rfl (LX_t L) (LX_r L 0 false 1 0 6 rfl)).trans ?_
  refine (Go_const (h := mI (nuN h) (nuM I (hN h))) (y := 53) (ip := 20) (a := (-1)) (b := 0) (c := 0) (by decide +kernel)).trans ?_
  refine (Go_call2 (h := mI (nuN h) (nuM I (hN h))) (y := 53) (ip := 21) (a := 41) (z := 274) (c := 1) (as := [.inr (.inl (some (hN h + 1))), .inl (-1)]) (rest := []) (by decide +kernel) (by decide +kernel) rfl rfl rfl rfl).trans ?_
  show caln 53 [.inr (.inl (some ((hN h))))] [] 22 (Go 274 0 [.inr (.inl (some ((hN h + 1)))), .inl (-1), vU, vU] [] (mI (nuN h) (nuM I (hN h)))) = _
  rw [k274 (n := 6) (by rw [nuN_K, if_neg (by omega), if_neg (by omega), if_pos rfl]) (by decide), caln_v, b53_22 L, k274 (n := 100) (by rw [nuN_K, if_neg (by omega), if_pos rfl]) (by decide), caln_v, b53_26, rowU_ne (b := hN h + 2) (by omega)]
  rfl
theorem nwN_f {I : Nat → Int → Int} {n c : Nat} (h : c < n ∨ n + 4 < c) : nwN I n c = I c := by
  unfold nwN nuM
  rw [rowU_ne (by omega), rowU_ne (by omega), rowU_ne (by omega), rowU_ne (by omega), rowU_ne (by omega), rowU_ne (by omega), rowU_ne (by omega)]
def nuP (h : HP) : HP := hfa (hfa (hfa (hfa (hfa (hNew h 15 0 7) (hN h) 0 0 100) (hN h) 1 0 100) (hN h) 2 0 100) (hN h) 3 0 100) (hN h) 4 1 100
def nuQ (I : Nat → Int → Int) (n : Nat) : Nat → Int → Int := rowU (rowU (rowU (rowU (rowU (rowU I n (fun _ => 0)) (n + 1) (fun _ => 0)) (n + 2) (fun _ => 0)) (n + 3) (fun _ => 0)) (n + 4) (fun _ => 0)) (n + 5) (fun _ => 0)
theorem nuP_K (h : HP) (b : Nat) : hK (nuP h) b = if b = hN h + 5 then (1, 100) else if b = hN h + 4 ∨ b = hN h + 3 ∨ b = hN h + 2 ∨ b = hN h + 1 then (0, 100) else if b = hN h then (15, 0) else hK h b := by
  show (if b = hN h + 5 then ((1, 100) : Nat × Int) else if b = hN h + 4 then (0, 100) else if b = hN h + 3 then (0, 100) else if b = hN h + 2 then (0, 100) else if b = hN h + 1 then (0, 100) else if b = hN h then (15, 0) else hK h b) = _
  by_cases q1 : b = hN h + 5
  · subst q1; rw [if_pos rfl, if_pos rfl]
  · rw [if_neg q1, if_neg q1]
    by_cases q2 : b = hN h + 4
    · subst q2; rw [if_pos rfl, if_pos (Or.inl rfl)]
    · rw [if_neg q2]
      by_cases q3 : b = hN h + 3
      · subst q3; rw [if_pos rfl, if_pos (Or.inr (Or.inl rfl))]
      · rw [if_neg q3]
        by_cases q4 : b = hN h + 2
        · subst q4; rw [if_pos rfl, if_pos (Or.inr (Or.inr (Or.inl rfl)))]
        · rw [if_neg q4]
          by_cases q5 : b = hN h + 1
          · subst q5; rw [if_pos rfl, if_pos (Or.inr (Or.inr (Or.inr rfl)))]
          · rw [if_neg q5, if_neg (show ¬(b = hN h + 4 ∨ b = hN h + 3 ∨ b = hN h + 2 ∨ b = hN h + 1) by omega)]
theorem nuP_R (h : HP) (b : Nat) (j : Int) (hb : b < hN h) : hR (nuP h) b j = hR h b j := by
  unfold nuP
  rw [hR_fa (by rw [hN_fa, hN_fa, hN_fa, hN_fa, hN_nw]; omega), if_neg (by omega), hR_fa (by rw [hN_fa, hN_fa, hN_fa, hN_nw]; omega), if_neg (by omega), hR_fa (by rw [hN_fa, hN_fa, hN_nw]; omega), if_neg (by omega), hR_fa (by rw [hN_fa, hN_nw]; omega), if_neg (by omega), hR_fa (by rw [hN_nw]; omega), if_neg (by omega), hR_nw (by omega)]
theorem nuP_L (h : HP) : LX 5 (nuP h) (hN h) := by
  have r : ∀ j, hR (nuP h) (hN h) j = if j = 4 then some (hN h + 5) else if j = 3 then some (hN h + 4) else if j = 2 then some (hN h + 3) else if j = 1 then some (hN h + 2) else if j = 0 then some (hN h + 1) else none := by
    intro j
    unfold nuP
    rw [hR_fa (by rw [hN_fa, hN_fa, hN_fa, hN_fa, hN_nw]; omega), hR_fa (by rw [hN_fa, hN_fa, hN_fa, hN_nw]; omega), hR_fa (by rw [hN_fa, hN_fa, hN_nw]; omega), hR_fa (by rw [hN_fa, hN_nw]; omega), hR_fa (by rw [hN_nw]; omega)]
    simp only [true_and, hN_fa, hN_nw]
    have e : hR (hNew h 15 0 7) (hN h) j = none := by
      show (if hN h = hN h then fun _ => none else hR h (hN h)) j = none
      rw [if_pos rfl]
    rw [e]
    rfl
  refine ⟨by rw [nuP_K, if_neg (by omega), if_neg (by omega), if_pos rfl], fun q hq => ?_⟩
  simp only [zlay, List.mem_cons, List.not_mem_nil, or_false] at hq
  obtain q0 | q0 | q0 | q0 | q0 := hq
  · subst q0
    refine ⟨r 0, ?_⟩
    show hK (nuP h) (hN h + 1) = _
    rw [nuP_K, if_neg (by omega), if_pos (by omega)]
  · subst q0
    refine ⟨r 1, ?_⟩
    show hK (nuP h) (hN h + 2) = _
    rw [nuP_K, if_neg (by omega), if_pos (by omega)]
  · subst q0
    refine ⟨r 2, ?_⟩
    show hK (nuP h) (hN h + 3) = _
    rw [nuP_K, if_neg (by omega), if_pos (by omega)]
  · subst q0
    refine ⟨r 3, ?_⟩
    show hK (nuP h) (hN h + 4) = _
    rw [nuP_K, if_neg (by omega), if_pos (by omega)]
  · subst q0
    refine ⟨r 4, ?_⟩
    show hK (nuP h) (hN h + 5) = _
    rw [nuP_K, if_pos rfl]
theorem nuP_X (h : HP) : XT h (nuP h) 6 507 := by
  refine ⟨?_, fun a ha => ⟨?_, fun _ => funext fun j => nuP_R h a j ha⟩, Nat.le_refl _, Nat.le_refl _⟩
  · show hN h ≤ hN h + 1 + 1 + 1 + 1 + 1 + 1
    omega
  · rw [nuP_K, if_neg (by omega), if_neg (by omega), if_neg (by omega)]
/-- a new pack -/
def nwP (I : Nat → Int → Int) (n : Nat) : Nat → Int → Int := rowU (nuQ I n) (n + 4) (fillR (nuQ I n (n + 4)) 0 100 (fun _ => -1))
theorem k55 {h : HP} {I : Nat → Int → Int} : Go 55 0 [.inr (.inl (some ((hN h))))] [] (hNew (mI h I) 15 0 7) = some (mI (nuP h) (nwP I (hN h)), .inl none) := by
  have L := nuP_L h
  rw [mI_nw]
  refine (Go_aload (h := mI _ _) (y := 55) (ip := 0) (a := 0) (b := 0) (c := 0) (by decide +kernel) rfl).trans ?_
  refine (Go_objinit (h := mI _ _) (y := 55) (ip := 1) (a := 5) (b := 0) (c := 0) (by decide +kernel) rfl).trans ?_
  refine (Go_fa (ip := 2) (p := 43) (k := 0) (t := 0) (n := 100) (ci := 5) (by decide +kernel) (by decide +kernel) (by decide +kernel) (by decide +kernel) rfl (by decide) (by rw [hN_nw]; omega) (by rw [hK_nw, if_pos rfl])).trans ?_
  refine (Go_fa (ip := 6) (p := 44) (k := 1) (t := 0) (n := 100) (ci := 5) (by decide +kernel) (by decide +kernel) (by decide +kernel) (by decide +kernel) rfl (by decide) (by rw [hN_fa, hN_nw]; omega) (by rw [hK_fa, if_neg (by rw [hN_nw]; omega), hK_nw, if_pos rfl])).trans ?_
  refine (Go_fa (ip := 10) (p := 45) (k := 2) (t := 0) (n := 100) (ci := 5) (by decide +kernel) (by decide +kernel) (by decide +kernel) (by decide +kernel) rfl (by decide) (by rw [hN_fa, hN_fa, hN_nw]; omega) (by rw [hK_fa, if_neg (by rw [hN_fa, hN_nw]; omega), hK_fa, if_neg (by rw [hN_nw]; omega), hK_nw, if_pos rfl])).trans ?_
  refine (Go_fa (ip := 14) (p := 46) (k := 3) (t := 0) (n := 100) (ci := 5) (by decide +kernel) (by decide +kernel) (by decide +kernel) (by decide +kernel) rfl (by decide) (by rw [hN_fa, hN_fa, hN_fa, hN_nw]; omega) (by rw [hK_fa, if_neg (by rw [hN_fa, hN_fa, hN_nw]; omega), hK_fa, if_neg (by rw [hN_fa, hN_nw]; omega), hK_fa, if_neg (by rw [hN_nw]; omega), hK_nw, if_pos rfl])).trans ?_
  refine (Go_fa (ip := 18) (p := 47) (k := 4) (t := 1) (n := 100) (ci := 5) (by decide +kernel) (by decide +kernel) (by decide +kernel) (by decide +kernel) rfl (by decide) (by rw [hN_fa, hN_fa, hN_fa, hN_fa, hN_nw]; omega) (by rw [hK_fa, if_neg (by rw [hN_fa, hN_fa, hN_fa, hN_nw]; omega), hK_fa, if_neg (by rw [hN_fa, hN_fa, hN_nw]; omega), hK_fa, if_neg (by rw [hN_fa, hN_nw]; omega), hK_fa, if_neg (by rw [hN_nw]; omega), hK_nw, if_pos rfl])).trans ?_
  show Go 55 22 [.inr (.inl (some ((hN h))))] [] (mI (nuP h) (nuQ I (hN h))) = _
  refine (Go_aload (h := mI (nuP h) (nuQ I (hN h))) (y := 55) (ip := 22) (a := 0) (b := 0) (c := 0) (by decide +kernel) rfl).trans ?_
  refine (Go_getR2 (r1 := some (hN h + 4)) (h := mI (nuP h) (nuQ I (hN h))) (y := 55) (ip := 23) (a := 46) (b := 5) (c := 3) (by decide +kernel) rfl (LX_t L) (LX_r L 3 false 4 0 100 rfl)).trans ?_
  refine (Go_const (h := mI (nuP h) (nuQ I (hN h))) (y := 55) (ip := 24) (a := (-1)) (b := 0) (c := 0) (by decide +kernel)).trans ?_
  refine (Go_call2 (h := mI (nuP h) (nuQ I (hN h))) (y := 55) (ip := 25) (a := 42) (z := 274) (c := 1) (as := [.inr (.inl (some (hN h + 4))), .inl (-1)]) (rest := []) (by decide +kernel) (by decide +kernel) rfl rfl rfl rfl).trans ?_
  show caln 55 [.inr (.inl (some ((hN h))))] [] 26 (Go 274 0 [.inr (.inl (some ((hN h + 4)))), .inl (-1), vU, vU] [] (mI (nuP h) (nuQ I (hN h)))) = _
  rw [k274 (n := 100) (by rw [nuP_K, if_neg (by omega), if_pos (Or.inl rfl)]) (by decide), caln_v, b55_26]
  rfl
theorem nwP_f {I : Nat → Int → Int} {n c : Nat} (h : c < n ∨ n + 5 < c) : nwP I n c = I c := by
  unfold nwP nuQ
  rw [rowU_ne (by omega), rowU_ne (by omega), rowU_ne (by omega), rowU_ne (by omega), rowU_ne (by omega), rowU_ne (by omega), rowU_ne (by omega)]
/-- a new pack is an empty pack -/
theorem nwP_C {h : HP} {I J : Nat → Int → Int} {p : Int} (hp : J 111 p = 0) (hn : 140 ≤ hN h) : PC (nuP h) (nwP I (hN h)) J (hN h) p := by
  obtain ⟨n, hnn⟩ : ∃ n, n = hN h := ⟨_, rfl⟩
  have e0 : nwP I n n = fun _ => 0 := by
    unfold nwP nuQ
    rw [rowU_ne (by omega), rowU_ne (by omega), rowU_ne (by omega), rowU_ne (by omega), rowU_ne (by omega), rowU_ne (by omega), rowU_eq]
  have e5 : nwP I n (n + 5) = fun _ => 0 := by
    unfold nwP nuQ
    rw [rowU_ne (by omega), rowU_eq]
  have e4 : ∀ o, 0 ≤ o → o < 100 → nwP I n (n + 4) o = -1 := fun o o0 o1 => by
    unfold nwP
    rw [rowU_eq]
    exact if_pos ⟨o0, o1⟩
  refine ⟨nuP_L h, ⟨hn, ?_⟩, ?_, ?_⟩
  · show hN h + 5 < hN h + 1 + 1 + 1 + 1 + 1 + 1
    omega
  · rw [← hnn, e0, hp]
    exact ⟨rfl, rfl⟩
  · rw [← hnn]
    refine ⟨fun k k0 k1 => by omega, fun k _ _ => by rw [e5], fun o o0 o1 => ?_⟩
    rw [e4 o o0 o1]
    unfold eo
    rw [hp]
    rfl
