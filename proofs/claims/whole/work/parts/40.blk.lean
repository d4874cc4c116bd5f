theorem b165_0 {h : HP} {I : Nat → Int → Int} {x1 : Int} {v2 : MV} {v3 : MV} : Go 165 0 [.inr (.inl (some 94)), .inl x1, v2, v3] [] (mI h I) = Go 165 4 [.inr (.inl (some 94)), .inl x1, .inl (-1), .inl 0] [] (mI h I) := by
  refine (Go_const (y := 165) (ip := 0) (a := (-1)) (b := 0) (c := 0) (by decide +kernel)).trans ?_
  refine (Go_istore (y := 165) (ip := 1) (a := 0) (b := 2) (c := 0) (by decide +kernel) rfl).trans ?_
  refine (Go_const (y := 165) (ip := 2) (a := 0) (b := 0) (c := 0) (by decide +kernel)).trans ?_
  refine (Go_istore (y := 165) (ip := 3) (a := 0) (b := 3) (c := 0) (by decide +kernel) rfl).trans ?_
  rfl

theorem b165_4 {h : HP} {I : Nat → Int → Int} {x1 : Int} {x2 : Int} {x3 : Int} (p0 : LX 11 h 94) : Go 165 4 [.inr (.inl (some 94)), .inl x1, .inl x2, .inl x3] [] (mI h I) = if I 94 0 ≤ x3 then Go 165 20 [.inr (.inl (some 94)), .inl x1, .inl x2, .inl x3] [] (mI h I) else Go 165 8 [.inr (.inl (some 94)), .inl x1, .inl x2, .inl x3] [] (mI h I) := by
  refine (Go_iload (y := 165) (ip := 4) (a := 0) (b := 3) (c := 0) (by decide +kernel) rfl).trans ?_
  refine (Go_aload (y := 165) (ip := 5) (a := 0) (b := 0) (c := 0) (by decide +kernel) rfl).trans ?_
  refine (Go_getI (y := 165) (ip := 6) (a := 172) (b := 11) (c := 0) (by decide +kernel) rfl (LX_t p0)).trans ?_
  refine (Go_cmpge (y := 165) (ip := 7) (a := 0) (c := 20) (by decide +kernel)).trans ?_
  rfl

theorem b165_8 {h : HP} {I : Nat → Int → Int} {x1 : Int} {x2 : Int} {x3 : Int} (p0 : LX 11 h 94) (p1 : 0 ≤ x3 ∧ x3 < 120) : Go 165 8 [.inr (.inl (some 94)), .inl x1, .inl x2, .inl x3] [] (mI h I) = if I 98 x3 ≠ x1 then Go 165 16 [.inr (.inl (some 94)), .inl x1, .inl x2, .inl x3] [] (mI h I) else Go 165 14 [.inr (.inl (some 94)), .inl x1, .inl x2, .inl x3] [] (mI h I) := by
  refine (Go_aload (y := 165) (ip := 8) (a := 0) (b := 0) (c := 0) (by decide +kernel) rfl).trans ?_
  refine (Go_getR2 (r1 := some 98) (y := 165) (ip := 9) (a := 130) (b := 11) (c := 4) (by decide +kernel) rfl (LX_t p0) (LX_r p0 4 false 4 0 120 rfl)).trans ?_
  refine (Go_iload (y := 165) (ip := 10) (a := 0) (b := 3) (c := 0) (by decide +kernel) rfl).trans ?_
  refine (Go_ald (y := 165) (ip := 11) (a := 0) (b := 0) (c := 0) (by decide +kernel) rfl (LX_k p0 4 false 4 0 120 rfl) rfl p1).trans ?_
  refine (Go_iload (y := 165) (ip := 12) (a := 0) (b := 1) (c := 0) (by decide +kernel) rfl).trans ?_
  refine (Go_cmpne (y := 165) (ip := 13) (a := 0) (c := 16) (by decide +kernel)).trans ?_
  rfl

theorem b165_14 {h : HP} {I : Nat → Int → Int} {x1 : Int} {x2 : Int} {x3 : Int} : Go 165 14 [.inr (.inl (some 94)), .inl x1, .inl x2, .inl x3] [] (mI h I) = Go 165 17 [.inr (.inl (some 94)), .inl x1, .inl x2, .inl x3] [.inl x3] (mI h I) := by
  refine (Go_iload (y := 165) (ip := 14) (a := 0) (b := 3) (c := 0) (by decide +kernel) rfl).trans ?_
  refine (Go_goto (y := 165) (ip := 15) (a := 0) (b := 0) (c := 17) (by decide +kernel)).trans ?_
  rfl

theorem b165_16 {h : HP} {I : Nat → Int → Int} {x1 : Int} {x2 : Int} {x3 : Int} : Go 165 16 [.inr (.inl (some 94)), .inl x1, .inl x2, .inl x3] [] (mI h I) = Go 165 17 [.inr (.inl (some 94)), .inl x1, .inl x2, .inl x3] [.inl x2] (mI h I) := by
  refine (Go_iload (y := 165) (ip := 16) (a := 0) (b := 2) (c := 0) (by decide +kernel) rfl).trans ?_
  rfl

theorem b165_17 {h : HP} {I : Nat → Int → Int} {x1 : Int} {x2 : Int} {x3 : Int} {sx0 : Int} (p0 : rgI (x3 + 1)) : Go 165 17 [.inr (.inl (some 94)), .inl x1, .inl x2, .inl x3] [.inl sx0] (mI h I) = Go 165 4 [.inr (.inl (some 94)), .inl x1, .inl sx0, .inl (x3 + 1)] [] (mI h I) := by
  refine (Go_istore (y := 165) (ip := 17) (a := 0) (b := 2) (c := 0) (by decide +kernel) rfl).trans ?_
  refine (Go_iinc (y := 165) (ip := 18) (a := 1) (b := 3) (c := 0) (by decide +kernel) rfl p0).trans ?_
  refine (Go_goto (y := 165) (ip := 19) (a := 0) (b := 0) (c := 4) (by decide +kernel)).trans ?_
  rfl

theorem b165_20 {h : HP} {I : Nat → Int → Int} {x1 : Int} {x2 : Int} {x3 : Int} : Go 165 20 [.inr (.inl (some 94)), .inl x1, .inl x2, .inl x3] [] (mI h I) = some (mI h I, .inl (some (.inl x2))) := by
  refine (Go_iload (y := 165) (ip := 20) (a := 0) (b := 2) (c := 0) (by decide +kernel) rfl).trans ?_
  refine (Go_iret (y := 165) (ip := 21) (a := 0) (b := 0) (c := 0) (by decide +kernel) (Or.inl rfl)).trans ?_
  rfl

theorem b169_0 {h : HP} {I : Nat → Int → Int} {x1 : Int} {x2 : Int} (p0 : LX 11 h 94) (p1 : rgI (12 * x1)) (p2 : rgI ((12 * x1) + x2)) (p3 : 0 ≤ (12 * x1) + x2 ∧ (12 * x1) + x2 < 1440) : Go 169 0 [.inr (.inl (some 94)), .inl x1, .inl x2] [] (mI h I) = caln 169 [.inr (.inl (some 94)), .inl x1, .inl x2] [] 10 (Go 165 0 [.inr (.inl (some 94)), .inl (I 97 ((12 * x1) + x2)), vU, vU] [] (mI h I)) := by
  refine (Go_aload (y := 169) (ip := 0) (a := 0) (b := 0) (c := 0) (by decide +kernel) rfl).trans ?_
  refine (Go_aload (y := 169) (ip := 1) (a := 0) (b := 0) (c := 0) (by decide +kernel) rfl).trans ?_
  refine (Go_getR2 (r1 := some 97) (y := 169) (ip := 2) (a := 129) (b := 11) (c := 3) (by decide +kernel) rfl (LX_t p0) (LX_r p0 3 false 3 0 1440 rfl)).trans ?_
  refine (Go_const (y := 169) (ip := 3) (a := 12) (b := 0) (c := 0) (by decide +kernel)).trans ?_
  refine (Go_iload (y := 169) (ip := 4) (a := 0) (b := 1) (c := 0) (by decide +kernel) rfl).trans ?_
  refine (Go_ar (op := 6) (x := 12 * x1) (y := 169) (ip := 5) (a := 0) (b := 0) (c := 0) (by decide +kernel) rfl (zar6 p1)).trans ?_
  refine (Go_iload (y := 169) (ip := 6) (a := 0) (b := 2) (c := 0) (by decide +kernel) rfl).trans ?_
  refine (Go_ar (op := 4) (x := (12 * x1) + x2) (y := 169) (ip := 7) (a := 0) (b := 0) (c := 0) (by decide +kernel) rfl (zar4 p2)).trans ?_
  refine (Go_ald (y := 169) (ip := 8) (a := 0) (b := 0) (c := 0) (by decide +kernel) rfl (LX_k p0 3 false 3 0 1440 rfl) rfl p3).trans ?_
  refine (Go_call2 (y := 169) (ip := 9) (a := 164) (z := 165) (c := 0) (as := [.inr (.inl (some 94)), .inl (I 97 ((12 * x1) + x2))]) (rest := []) (by decide +kernel) (by decide +kernel) rfl rfl (zrecv_v rfl (LX_t p0)) rfl).trans ?_
  rfl

theorem b169_10 {h : HP} {I : Nat → Int → Int} {x1 : Int} {x2 : Int} {sx0 : Int} : Go 169 10 [.inr (.inl (some 94)), .inl x1, .inl x2] [.inl sx0] (mI h I) = some (mI h I, .inl (some (.inl sx0))) := by
  refine (Go_iret (y := 169) (ip := 10) (a := 0) (b := 0) (c := 0) (by decide +kernel) (Or.inl rfl)).trans ?_
  rfl

theorem b177_0 {h : HP} {I : Nat → Int → Int} {x1 : Int} {x2 : Int} {v3 : MV} {v4 : MV} : Go 177 0 [.inr (.inl (some 94)), .inl x1, .inl x2, v3, v4] [] (mI h I) = Go 177 4 [.inr (.inl (some 94)), .inl x1, .inl x2, .inl x2, .inl 1] [] (mI h I) := by
  refine (Go_iload (y := 177) (ip := 0) (a := 0) (b := 2) (c := 0) (by decide +kernel) rfl).trans ?_
  refine (Go_istore (y := 177) (ip := 1) (a := 0) (b := 3) (c := 0) (by decide +kernel) rfl).trans ?_
  refine (Go_const (y := 177) (ip := 2) (a := 1) (b := 0) (c := 0) (by decide +kernel)).trans ?_
  refine (Go_istore (y := 177) (ip := 3) (a := 0) (b := 4) (c := 0) (by decide +kernel) rfl).trans ?_
  rfl

theorem b177_4 {h : HP} {I : Nat → Int → Int} {x1 : Int} {x2 : Int} {x3 : Int} {x4 : Int} : Go 177 4 [.inr (.inl (some 94)), .inl x1, .inl x2, .inl x3, .inl x4] [] (mI h I) = if x3 < 0 then Go 177 31 [.inr (.inl (some 94)), .inl x1, .inl x2, .inl x3, .inl x4] [] (mI h I) else Go 177 6 [.inr (.inl (some 94)), .inl x1, .inl x2, .inl x3, .inl x4] [] (mI h I) := by
  refine (Go_iload (y := 177) (ip := 4) (a := 0) (b := 3) (c := 0) (by decide +kernel) rfl).trans ?_
  refine (Go_iflt (y := 177) (ip := 5) (a := 0) (c := 31) (by decide +kernel)).trans ?_
  rfl

theorem b177_6 {h : HP} {I : Nat → Int → Int} {x1 : Int} {x2 : Int} {x3 : Int} {x4 : Int} (p0 : LX 11 h 94) (p1 : rgI (120 * x1)) (p2 : rgI ((120 * x1) + x3)) (p3 : 0 ≤ (120 * x1) + x3 ∧ (120 * x1) + x3 < 4800) : Go 177 6 [.inr (.inl (some 94)), .inl x1, .inl x2, .inl x3, .inl x4] [] (mI h I) = if I 114 ((120 * x1) + x3) ≠ 0 then Go 177 18 [.inr (.inl (some 94)), .inl x1, .inl x2, .inl x3, .inl x4] [.inl x4] (mI h I) else Go 177 16 [.inr (.inl (some 94)), .inl x1, .inl x2, .inl x3, .inl x4] [.inl x4] (mI h I) := by
  refine (Go_iload (y := 177) (ip := 6) (a := 0) (b := 4) (c := 0) (by decide +kernel) rfl).trans ?_
  refine (Go_aload (y := 177) (ip := 7) (a := 0) (b := 0) (c := 0) (by decide +kernel) rfl).trans ?_
  refine (Go_getR2 (r1 := some 114) (y := 177) (ip := 8) (a := 146) (b := 11) (c := 23) (by decide +kernel) rfl (LX_t p0) (LX_r p0 23 false 20 1 4800 rfl)).trans ?_
  refine (Go_const (y := 177) (ip := 9) (a := 120) (b := 0) (c := 0) (by decide +kernel)).trans ?_
  refine (Go_iload (y := 177) (ip := 10) (a := 0) (b := 1) (c := 0) (by decide +kernel) rfl).trans ?_
  refine (Go_ar (op := 6) (x := 120 * x1) (y := 177) (ip := 11) (a := 0) (b := 0) (c := 0) (by decide +kernel) rfl (zar6 p1)).trans ?_
  refine (Go_iload (y := 177) (ip := 12) (a := 0) (b := 3) (c := 0) (by decide +kernel) rfl).trans ?_
  refine (Go_ar (op := 4) (x := (120 * x1) + x3) (y := 177) (ip := 13) (a := 0) (b := 0) (c := 0) (by decide +kernel) rfl (zar4 p2)).trans ?_
  refine (Go_ald (y := 177) (ip := 14) (a := 0) (b := 1) (c := 0) (by decide +kernel) rfl (LX_k p0 23 false 20 1 4800 rfl) rfl p3).trans ?_
  refine (Go_ifne (y := 177) (ip := 15) (a := 0) (c := 18) (by decide +kernel)).trans ?_
  rfl

theorem b177_16 {h : HP} {I : Nat → Int → Int} {x1 : Int} {x2 : Int} {x3 : Int} {x4 : Int} {sx0 : Int} : Go 177 16 [.inr (.inl (some 94)), .inl x1, .inl x2, .inl x3, .inl x4] [.inl sx0] (mI h I) = Go 177 19 [.inr (.inl (some 94)), .inl x1, .inl x2, .inl x3, .inl x4] [.inl 1, .inl sx0] (mI h I) := by
  refine (Go_const (y := 177) (ip := 16) (a := 1) (b := 0) (c := 0) (by decide +kernel)).trans ?_
  refine (Go_goto (y := 177) (ip := 17) (a := 0) (b := 0) (c := 19) (by decide +kernel)).trans ?_
  rfl

theorem b177_18 {h : HP} {I : Nat → Int → Int} {x1 : Int} {x2 : Int} {x3 : Int} {x4 : Int} {sx0 : Int} : Go 177 18 [.inr (.inl (some 94)), .inl x1, .inl x2, .inl x3, .inl x4] [.inl sx0] (mI h I) = Go 177 19 [.inr (.inl (some 94)), .inl x1, .inl x2, .inl x3, .inl x4] [.inl 0, .inl sx0] (mI h I) := by
  refine (Go_const (y := 177) (ip := 18) (a := 0) (b := 0) (c := 0) (by decide +kernel)).trans ?_
  rfl

theorem b177_19 {h : HP} {I : Nat → Int → Int} {x1 : Int} {x2 : Int} {x3 : Int} {x4 : Int} {sx0 : Int} {sx1 : Int} (p0 : LX 11 h 94) (p1 : rgI (120 * x1)) (p2 : rgI ((120 * x1) + x3)) (p3 : 0 ≤ (120 * x1) + x3 ∧ (120 * x1) + x3 < 4800) : Go 177 19 [.inr (.inl (some 94)), .inl x1, .inl x2, .inl x3, .inl x4] [.inl sx1, .inl sx0] (mI h I) = Go 177 4 [.inr (.inl (some 94)), .inl x1, .inl x2, .inl (I 113 ((120 * x1) + x3)), .inl (zand sx0 sx1)] [] (mI h I) := by
  refine (Go_ar (op := 10) (x := zand sx0 sx1) (y := 177) (ip := 19) (a := 0) (b := 0) (c := 0) (by decide +kernel) rfl rfl).trans ?_
  refine (Go_istore (y := 177) (ip := 20) (a := 0) (b := 4) (c := 0) (by decide +kernel) rfl).trans ?_
  refine (Go_aload (y := 177) (ip := 21) (a := 0) (b := 0) (c := 0) (by decide +kernel) rfl).trans ?_
  refine (Go_getR2 (r1 := some 113) (y := 177) (ip := 22) (a := 145) (b := 11) (c := 22) (by decide +kernel) rfl (LX_t p0) (LX_r p0 22 false 19 0 4800 rfl)).trans ?_
  refine (Go_const (y := 177) (ip := 23) (a := 120) (b := 0) (c := 0) (by decide +kernel)).trans ?_
  refine (Go_iload (y := 177) (ip := 24) (a := 0) (b := 1) (c := 0) (by decide +kernel) rfl).trans ?_
  refine (Go_ar (op := 6) (x := 120 * x1) (y := 177) (ip := 25) (a := 0) (b := 0) (c := 0) (by decide +kernel) rfl (zar6 p1)).trans ?_
  refine (Go_iload (y := 177) (ip := 26) (a := 0) (b := 3) (c := 0) (by decide +kernel) rfl).trans ?_
  refine (Go_ar (op := 4) (x := (120 * x1) + x3) (y := 177) (ip := 27) (a := 0) (b := 0) (c := 0) (by decide +kernel) rfl (zar4 p2)).trans ?_
  refine (Go_ald (y := 177) (ip := 28) (a := 0) (b := 0) (c := 0) (by decide +kernel) rfl (LX_k p0 22 false 19 0 4800 rfl) rfl p3).trans ?_
  refine (Go_istore (y := 177) (ip := 29) (a := 0) (b := 3) (c := 0) (by decide +kernel) rfl).trans ?_
  refine (Go_goto (y := 177) (ip := 30) (a := 0) (b := 0) (c := 4) (by decide +kernel)).trans ?_
  rfl

theorem b177_31 {h : HP} {I : Nat → Int → Int} {x1 : Int} {x2 : Int} {x3 : Int} {x4 : Int} (p0 : x4 = 0 ∨ x4 = 1) : Go 177 31 [.inr (.inl (some 94)), .inl x1, .inl x2, .inl x3, .inl x4] [] (mI h I) = some (mI h I, .inl (some (.inl x4))) := by
  refine (Go_iload (y := 177) (ip := 31) (a := 0) (b := 4) (c := 0) (by decide +kernel) rfl).trans ?_
  refine (Go_iret (y := 177) (ip := 32) (a := 0) (b := 0) (c := 0) (by decide +kernel) (Or.inr ⟨rfl, p0⟩)).trans ?_
  rfl

theorem b178_0 {h : HP} {I : Nat → Int → Int} {x1 : Int} {x2 : Int} {x3 : Int} {v4 : MV} {v5 : MV} {v6 : MV} (p0 : rgI (20 * x1)) : Go 178 0 [.inr (.inl (some 94)), .inl x1, .inl x2, .inl x3, v4, v5, v6] [] (mI h I) = Go 178 6 [.inr (.inl (some 94)), .inl x1, .inl x2, .inl x3, .inl 0, .inl (20 * x1), v6] [] (mI h I) := by
  refine (Go_const (y := 178) (ip := 0) (a := 0) (b := 0) (c := 0) (by decide +kernel)).trans ?_
  refine (Go_istore (y := 178) (ip := 1) (a := 0) (b := 4) (c := 0) (by decide +kernel) rfl).trans ?_
  refine (Go_const (y := 178) (ip := 2) (a := 20) (b := 0) (c := 0) (by decide +kernel)).trans ?_
  refine (Go_iload (y := 178) (ip := 3) (a := 0) (b := 1) (c := 0) (by decide +kernel) rfl).trans ?_
  refine (Go_ar (op := 6) (x := 20 * x1) (y := 178) (ip := 4) (a := 0) (b := 0) (c := 0) (by decide +kernel) rfl (zar6 p0)).trans ?_
  refine (Go_istore (y := 178) (ip := 5) (a := 0) (b := 5) (c := 0) (by decide +kernel) rfl).trans ?_
  rfl

theorem b178_6 {h : HP} {I : Nat → Int → Int} {x1 : Int} {x2 : Int} {x3 : Int} {x4 : Int} {x5 : Int} {v6 : MV} (p0 : rgI (20 * x1)) (p1 : LX 11 h 94) (p2 : 0 ≤ x1 ∧ x1 < 2) (p3 : rgI ((20 * x1) + (I 108 x1))) : Go 178 6 [.inr (.inl (some 94)), .inl x1, .inl x2, .inl x3, .inl x4, .inl x5, v6] [] (mI h I) = if (20 * x1) + (I 108 x1) ≤ x5 then Go 178 56 [.inr (.inl (some 94)), .inl x1, .inl x2, .inl x3, .inl x4, .inl x5, v6] [] (mI h I) else Go 178 16 [.inr (.inl (some 94)), .inl x1, .inl x2, .inl x3, .inl x4, .inl x5, v6] [] (mI h I) := by
  refine (Go_iload (y := 178) (ip := 6) (a := 0) (b := 5) (c := 0) (by decide +kernel) rfl).trans ?_
  refine (Go_const (y := 178) (ip := 7) (a := 20) (b := 0) (c := 0) (by decide +kernel)).trans ?_
  refine (Go_iload (y := 178) (ip := 8) (a := 0) (b := 1) (c := 0) (by decide +kernel) rfl).trans ?_
  refine (Go_ar (op := 6) (x := 20 * x1) (y := 178) (ip := 9) (a := 0) (b := 0) (c := 0) (by decide +kernel) rfl (zar6 p0)).trans ?_
  refine (Go_aload (y := 178) (ip := 10) (a := 0) (b := 0) (c := 0) (by decide +kernel) rfl).trans ?_
  refine (Go_getR2 (r1 := some 108) (y := 178) (ip := 11) (a := 140) (b := 11) (c := 17) (by decide +kernel) rfl (LX_t p1) (LX_r p1 17 false 14 0 2 rfl)).trans ?_
  refine (Go_iload (y := 178) (ip := 12) (a := 0) (b := 1) (c := 0) (by decide +kernel) rfl).trans ?_
  refine (Go_ald (y := 178) (ip := 13) (a := 0) (b := 0) (c := 0) (by decide +kernel) rfl (LX_k p1 17 false 14 0 2 rfl) rfl p2).trans ?_
  refine (Go_ar (op := 4) (x := (20 * x1) + (I 108 x1)) (y := 178) (ip := 14) (a := 0) (b := 0) (c := 0) (by decide +kernel) rfl (zar4 p3)).trans ?_
  refine (Go_cmpge (y := 178) (ip := 15) (a := 0) (c := 56) (by decide +kernel)).trans ?_
  rfl

theorem b178_16 {h : HP} {I : Nat → Int → Int} {x1 : Int} {x2 : Int} {x3 : Int} {x4 : Int} {x5 : Int} {v6 : MV} : Go 178 16 [.inr (.inl (some 94)), .inl x1, .inl x2, .inl x3, .inl x4, .inl x5, v6] [] (mI h I) = Go 178 18 [.inr (.inl (some 94)), .inl x1, .inl x2, .inl x3, .inl x4, .inl x5, .inl 0] [] (mI h I) := by
  refine (Go_const (y := 178) (ip := 16) (a := 0) (b := 0) (c := 0) (by decide +kernel)).trans ?_
  refine (Go_istore (y := 178) (ip := 17) (a := 0) (b := 6) (c := 0) (by decide +kernel) rfl).trans ?_
  rfl

theorem b178_18 {h : HP} {I : Nat → Int → Int} {x1 : Int} {x2 : Int} {x3 : Int} {x4 : Int} {x5 : Int} {x6 : Int} (p0 : LX 11 h 94) (p1 : 0 ≤ x5 ∧ x5 < 40) : Go 178 18 [.inr (.inl (some 94)), .inl x1, .inl x2, .inl x3, .inl x4, .inl x5, .inl x6] [] (mI h I) = if I 111 x5 ≤ x6 then Go 178 54 [.inr (.inl (some 94)), .inl x1, .inl x2, .inl x3, .inl x4, .inl x5, .inl x6] [] (mI h I) else Go 178 24 [.inr (.inl (some 94)), .inl x1, .inl x2, .inl x3, .inl x4, .inl x5, .inl x6] [] (mI h I) := by
  refine (Go_iload (y := 178) (ip := 18) (a := 0) (b := 6) (c := 0) (by decide +kernel) rfl).trans ?_
  refine (Go_aload (y := 178) (ip := 19) (a := 0) (b := 0) (c := 0) (by decide +kernel) rfl).trans ?_
  refine (Go_getR2 (r1 := some 111) (y := 178) (ip := 20) (a := 143) (b := 11) (c := 20) (by decide +kernel) rfl (LX_t p0) (LX_r p0 20 false 17 0 40 rfl)).trans ?_
  refine (Go_iload (y := 178) (ip := 21) (a := 0) (b := 5) (c := 0) (by decide +kernel) rfl).trans ?_
  refine (Go_ald (y := 178) (ip := 22) (a := 0) (b := 0) (c := 0) (by decide +kernel) rfl (LX_k p0 20 false 17 0 40 rfl) rfl p1).trans ?_
  refine (Go_cmpge (y := 178) (ip := 23) (a := 0) (c := 54) (by decide +kernel)).trans ?_
  rfl

theorem b178_24 {h : HP} {I : Nat → Int → Int} {x1 : Int} {x2 : Int} {x3 : Int} {x4 : Int} {x5 : Int} {x6 : Int} (p0 : LX 11 h 94) (p1 : 0 ≤ x5 ∧ x5 < 40) : Go 178 24 [.inr (.inl (some 94)), .inl x1, .inl x2, .inl x3, .inl x4, .inl x5, .inl x6] [] (mI h I) = if I 109 x5 = 0 then Go 178 54 [.inr (.inl (some 94)), .inl x1, .inl x2, .inl x3, .inl x4, .inl x5, .inl x6] [] (mI h I) else Go 178 29 [.inr (.inl (some 94)), .inl x1, .inl x2, .inl x3, .inl x4, .inl x5, .inl x6] [] (mI h I) := by
  refine (Go_aload (y := 178) (ip := 24) (a := 0) (b := 0) (c := 0) (by decide +kernel) rfl).trans ?_
  refine (Go_getR2 (r1 := some 109) (y := 178) (ip := 25) (a := 141) (b := 11) (c := 18) (by decide +kernel) rfl (LX_t p0) (LX_r p0 18 false 15 1 40 rfl)).trans ?_
  refine (Go_iload (y := 178) (ip := 26) (a := 0) (b := 5) (c := 0) (by decide +kernel) rfl).trans ?_
  refine (Go_ald (y := 178) (ip := 27) (a := 0) (b := 1) (c := 0) (by decide +kernel) rfl (LX_k p0 18 false 15 1 40 rfl) rfl p1).trans ?_
  refine (Go_ifeq (y := 178) (ip := 28) (a := 0) (c := 54) (by decide +kernel)).trans ?_
  rfl

theorem b178_29 {h : HP} {I : Nat → Int → Int} {x1 : Int} {x2 : Int} {x3 : Int} {x4 : Int} {x5 : Int} {x6 : Int} (p0 : LX 11 h 94) (p1 : rgI (120 * x5)) (p2 : rgI ((120 * x5) + x6)) (p3 : 0 ≤ (120 * x5) + x6 ∧ (120 * x5) + x6 < 4800) : Go 178 29 [.inr (.inl (some 94)), .inl x1, .inl x2, .inl x3, .inl x4, .inl x5, .inl x6] [] (mI h I) = if I 112 ((120 * x5) + x6) ≠ x2 then Go 178 49 [.inr (.inl (some 94)), .inl x1, .inl x2, .inl x3, .inl x4, .inl x5, .inl x6] [.inl x4] (mI h I) else Go 178 40 [.inr (.inl (some 94)), .inl x1, .inl x2, .inl x3, .inl x4, .inl x5, .inl x6] [.inl x4] (mI h I) := by
  refine (Go_iload (y := 178) (ip := 29) (a := 0) (b := 4) (c := 0) (by decide +kernel) rfl).trans ?_
  refine (Go_aload (y := 178) (ip := 30) (a := 0) (b := 0) (c := 0) (by decide +kernel) rfl).trans ?_
  refine (Go_getR2 (r1 := some 112) (y := 178) (ip := 31) (a := 144) (b := 11) (c := 21) (by decide +kernel) rfl (LX_t p0) (LX_r p0 21 false 18 0 4800 rfl)).trans ?_
  refine (Go_const (y := 178) (ip := 32) (a := 120) (b := 0) (c := 0) (by decide +kernel)).trans ?_
  refine (Go_iload (y := 178) (ip := 33) (a := 0) (b := 5) (c := 0) (by decide +kernel) rfl).trans ?_
  refine (Go_ar (op := 6) (x := 120 * x5) (y := 178) (ip := 34) (a := 0) (b := 0) (c := 0) (by decide +kernel) rfl (zar6 p1)).trans ?_
  refine (Go_iload (y := 178) (ip := 35) (a := 0) (b := 6) (c := 0) (by decide +kernel) rfl).trans ?_
  refine (Go_ar (op := 4) (x := (120 * x5) + x6) (y := 178) (ip := 36) (a := 0) (b := 0) (c := 0) (by decide +kernel) rfl (zar4 p2)).trans ?_
  refine (Go_ald (y := 178) (ip := 37) (a := 0) (b := 0) (c := 0) (by decide +kernel) rfl (LX_k p0 21 false 18 0 4800 rfl) rfl p3).trans ?_
  refine (Go_iload (y := 178) (ip := 38) (a := 0) (b := 2) (c := 0) (by decide +kernel) rfl).trans ?_
  refine (Go_cmpne (y := 178) (ip := 39) (a := 0) (c := 49) (by decide +kernel)).trans ?_
  rfl

theorem b178_40 {h : HP} {I : Nat → Int → Int} {x1 : Int} {x2 : Int} {x3 : Int} {x4 : Int} {x5 : Int} {x6 : Int} {sx0 : Int} : Go 178 40 [.inr (.inl (some 94)), .inl x1, .inl x2, .inl x3, .inl x4, .inl x5, .inl x6] [.inl sx0] (mI h I) = if x3 = 0 then Go 178 47 [.inr (.inl (some 94)), .inl x1, .inl x2, .inl x3, .inl x4, .inl x5, .inl x6] [.inl sx0] (mI h I) else Go 178 42 [.inr (.inl (some 94)), .inl x1, .inl x2, .inl x3, .inl x4, .inl x5, .inl x6] [.inl sx0] (mI h I) := by
  refine (Go_iload (y := 178) (ip := 40) (a := 0) (b := 3) (c := 0) (by decide +kernel) rfl).trans ?_
  refine (Go_ifeq (y := 178) (ip := 41) (a := 0) (c := 47) (by decide +kernel)).trans ?_
  rfl

theorem b178_42 {h : HP} {I : Nat → Int → Int} {x1 : Int} {x2 : Int} {x3 : Int} {x4 : Int} {x5 : Int} {x6 : Int} {sx0 : Int} (p0 : LX 11 h 94) : Go 178 42 [.inr (.inl (some 94)), .inl x1, .inl x2, .inl x3, .inl x4, .inl x5, .inl x6] [.inl sx0] (mI h I) = caln 178 [.inr (.inl (some 94)), .inl x1, .inl x2, .inl x3, .inl x4, .inl x5, .inl x6] [.inl sx0] 46 (Go 177 0 [.inr (.inl (some 94)), .inl x5, .inl x6, vU, vU] [] (mI h I)) := by
  refine (Go_aload (y := 178) (ip := 42) (a := 0) (b := 0) (c := 0) (by decide +kernel) rfl).trans ?_
  refine (Go_iload (y := 178) (ip := 43) (a := 0) (b := 5) (c := 0) (by decide +kernel) rfl).trans ?_
  refine (Go_iload (y := 178) (ip := 44) (a := 0) (b := 6) (c := 0) (by decide +kernel) rfl).trans ?_
  refine (Go_call2 (y := 178) (ip := 45) (a := 171) (z := 177) (c := 0) (as := [.inr (.inl (some 94)), .inl x5, .inl x6]) (rest := [.inl sx0]) (by decide +kernel) (by decide +kernel) rfl rfl (zrecv_v rfl (LX_t p0)) rfl).trans ?_
  rfl

theorem b178_46 {h : HP} {I : Nat → Int → Int} {x1 : Int} {x2 : Int} {x3 : Int} {x4 : Int} {x5 : Int} {x6 : Int} {sx0 : Int} {sx1 : Int} : Go 178 46 [.inr (.inl (some 94)), .inl x1, .inl x2, .inl x3, .inl x4, .inl x5, .inl x6] [.inl sx1, .inl sx0] (mI h I) = if sx1 = 0 then Go 178 49 [.inr (.inl (some 94)), .inl x1, .inl x2, .inl x3, .inl x4, .inl x5, .inl x6] [.inl sx0] (mI h I) else Go 178 47 [.inr (.inl (some 94)), .inl x1, .inl x2, .inl x3, .inl x4, .inl x5, .inl x6] [.inl sx0] (mI h I) := by
  refine (Go_ifeq (y := 178) (ip := 46) (a := 0) (c := 49) (by decide +kernel)).trans ?_
  rfl

theorem b178_47 {h : HP} {I : Nat → Int → Int} {x1 : Int} {x2 : Int} {x3 : Int} {x4 : Int} {x5 : Int} {x6 : Int} {sx0 : Int} : Go 178 47 [.inr (.inl (some 94)), .inl x1, .inl x2, .inl x3, .inl x4, .inl x5, .inl x6] [.inl sx0] (mI h I) = Go 178 50 [.inr (.inl (some 94)), .inl x1, .inl x2, .inl x3, .inl x4, .inl x5, .inl x6] [.inl 1, .inl sx0] (mI h I) := by
  refine (Go_const (y := 178) (ip := 47) (a := 1) (b := 0) (c := 0) (by decide +kernel)).trans ?_
  refine (Go_goto (y := 178) (ip := 48) (a := 0) (b := 0) (c := 50) (by decide +kernel)).trans ?_
  rfl

theorem b178_49 {h : HP} {I : Nat → Int → Int} {x1 : Int} {x2 : Int} {x3 : Int} {x4 : Int} {x5 : Int} {x6 : Int} {sx0 : Int} : Go 178 49 [.inr (.inl (some 94)), .inl x1, .inl x2, .inl x3, .inl x4, .inl x5, .inl x6] [.inl sx0] (mI h I) = Go 178 50 [.inr (.inl (some 94)), .inl x1, .inl x2, .inl x3, .inl x4, .inl x5, .inl x6] [.inl 0, .inl sx0] (mI h I) := by
  refine (Go_const (y := 178) (ip := 49) (a := 0) (b := 0) (c := 0) (by decide +kernel)).trans ?_
  rfl

theorem b178_50 {h : HP} {I : Nat → Int → Int} {x1 : Int} {x2 : Int} {x3 : Int} {x4 : Int} {x5 : Int} {x6 : Int} {sx0 : Int} {sx1 : Int} (p0 : rgI (x6 + 1)) : Go 178 50 [.inr (.inl (some 94)), .inl x1, .inl x2, .inl x3, .inl x4, .inl x5, .inl x6] [.inl sx1, .inl sx0] (mI h I) = Go 178 18 [.inr (.inl (some 94)), .inl x1, .inl x2, .inl x3, .inl (zor sx0 sx1), .inl x5, .inl (x6 + 1)] [] (mI h I) := by
  refine (Go_ar (op := 11) (x := zor sx0 sx1) (y := 178) (ip := 50) (a := 0) (b := 0) (c := 0) (by decide +kernel) rfl rfl).trans ?_
  refine (Go_istore (y := 178) (ip := 51) (a := 0) (b := 4) (c := 0) (by decide +kernel) rfl).trans ?_
  refine (Go_iinc (y := 178) (ip := 52) (a := 1) (b := 6) (c := 0) (by decide +kernel) rfl p0).trans ?_
  refine (Go_goto (y := 178) (ip := 53) (a := 0) (b := 0) (c := 18) (by decide +kernel)).trans ?_
  rfl

theorem b178_54 {h : HP} {I : Nat → Int → Int} {x1 : Int} {x2 : Int} {x3 : Int} {x4 : Int} {x5 : Int} {x6 : Int} (p0 : rgI (x5 + 1)) : Go 178 54 [.inr (.inl (some 94)), .inl x1, .inl x2, .inl x3, .inl x4, .inl x5, .inl x6] [] (mI h I) = Go 178 6 [.inr (.inl (some 94)), .inl x1, .inl x2, .inl x3, .inl x4, .inl (x5 + 1), .inl x6] [] (mI h I) := by
  refine (Go_iinc (y := 178) (ip := 54) (a := 1) (b := 5) (c := 0) (by decide +kernel) rfl p0).trans ?_
  refine (Go_goto (y := 178) (ip := 55) (a := 0) (b := 0) (c := 6) (by decide +kernel)).trans ?_
  rfl

theorem b178_56 {h : HP} {I : Nat → Int → Int} {x1 : Int} {x2 : Int} {x3 : Int} {x4 : Int} {x5 : Int} {v6 : MV} (p0 : x4 = 0 ∨ x4 = 1) : Go 178 56 [.inr (.inl (some 94)), .inl x1, .inl x2, .inl x3, .inl x4, .inl x5, v6] [] (mI h I) = some (mI h I, .inl (some (.inl x4))) := by
  refine (Go_iload (y := 178) (ip := 56) (a := 0) (b := 4) (c := 0) (by decide +kernel) rfl).trans ?_
  refine (Go_iret (y := 178) (ip := 57) (a := 0) (b := 0) (c := 0) (by decide +kernel) (Or.inr ⟨rfl, p0⟩)).trans ?_
  rfl

theorem b171_0 {h : HP} {I : Nat → Int → Int} {x1 : Int} {x2 : Int} {v3 : MV} {v4 : MV} (p0 : LX 11 h 94) (p1 : 0 ≤ x2 ∧ x2 < 120) : Go 171 0 [.inr (.inl (some 94)), .inl x1, .inl x2, v3, v4] [] (mI h I) = if I 95 x2 ≠ 1 then Go 171 27 [.inr (.inl (some 94)), .inl x1, .inl x2, .inl 0, v4] [] (mI h I) else Go 171 8 [.inr (.inl (some 94)), .inl x1, .inl x2, .inl 0, v4] [] (mI h I) := by
  refine (Go_const (y := 171) (ip := 0) (a := 0) (b := 0) (c := 0) (by decide +kernel)).trans ?_
  refine (Go_istore (y := 171) (ip := 1) (a := 0) (b := 3) (c := 0) (by decide +kernel) rfl).trans ?_
  refine (Go_aload (y := 171) (ip := 2) (a := 0) (b := 0) (c := 0) (by decide +kernel) rfl).trans ?_
  refine (Go_getR2 (r1 := some 95) (y := 171) (ip := 3) (a := 127) (b := 11) (c := 1) (by decide +kernel) rfl (LX_t p0) (LX_r p0 1 false 1 0 120 rfl)).trans ?_
  refine (Go_iload (y := 171) (ip := 4) (a := 0) (b := 2) (c := 0) (by decide +kernel) rfl).trans ?_
  refine (Go_ald (y := 171) (ip := 5) (a := 0) (b := 0) (c := 0) (by decide +kernel) rfl (LX_k p0 1 false 1 0 120 rfl) rfl p1).trans ?_
  refine (Go_const (y := 171) (ip := 6) (a := 1) (b := 0) (c := 0) (by decide +kernel)).trans ?_
  refine (Go_cmpne (y := 171) (ip := 7) (a := 0) (c := 27) (by decide +kernel)).trans ?_
  rfl

theorem b171_8 {h : HP} {I : Nat → Int → Int} {x1 : Int} {x2 : Int} {x3 : Int} {v4 : MV} : Go 171 8 [.inr (.inl (some 94)), .inl x1, .inl x2, .inl x3, v4] [] (mI h I) = Go 171 10 [.inr (.inl (some 94)), .inl x1, .inl x2, .inl x3, .inl 1] [] (mI h I) := by
  refine (Go_const (y := 171) (ip := 8) (a := 1) (b := 0) (c := 0) (by decide +kernel)).trans ?_
  refine (Go_istore (y := 171) (ip := 9) (a := 0) (b := 4) (c := 0) (by decide +kernel) rfl).trans ?_
  rfl

theorem b171_10 {h : HP} {I : Nat → Int → Int} {x1 : Int} {x2 : Int} {x3 : Int} {x4 : Int} (p0 : LX 11 h 94) (p1 : 0 ≤ x2 ∧ x2 < 120) : Go 171 10 [.inr (.inl (some 94)), .inl x1, .inl x2, .inl x3, .inl x4] [] (mI h I) = if I 96 x2 ≤ x4 then Go 171 27 [.inr (.inl (some 94)), .inl x1, .inl x2, .inl x3, .inl x4] [] (mI h I) else Go 171 16 [.inr (.inl (some 94)), .inl x1, .inl x2, .inl x3, .inl x4] [] (mI h I) := by
  refine (Go_iload (y := 171) (ip := 10) (a := 0) (b := 4) (c := 0) (by decide +kernel) rfl).trans ?_
  refine (Go_aload (y := 171) (ip := 11) (a := 0) (b := 0) (c := 0) (by decide +kernel) rfl).trans ?_
  refine (Go_getR2 (r1 := some 96) (y := 171) (ip := 12) (a := 128) (b := 11) (c := 2) (by decide +kernel) rfl (LX_t p0) (LX_r p0 2 false 2 0 120 rfl)).trans ?_
  refine (Go_iload (y := 171) (ip := 13) (a := 0) (b := 2) (c := 0) (by decide +kernel) rfl).trans ?_
  refine (Go_ald (y := 171) (ip := 14) (a := 0) (b := 0) (c := 0) (by decide +kernel) rfl (LX_k p0 2 false 2 0 120 rfl) rfl p1).trans ?_
  refine (Go_cmpge (y := 171) (ip := 15) (a := 0) (c := 27) (by decide +kernel)).trans ?_
  rfl

theorem b171_16 {h : HP} {I : Nat → Int → Int} {x1 : Int} {x2 : Int} {x3 : Int} {x4 : Int} (p0 : LX 11 h 94) : Go 171 16 [.inr (.inl (some 94)), .inl x1, .inl x2, .inl x3, .inl x4] [] (mI h I) = caln 171 [.inr (.inl (some 94)), .inl x1, .inl x2, .inl x3, .inl x4] [.inr (.inl (some 94)), .inl x3] 22 (Go 169 0 [.inr (.inl (some 94)), .inl x2, .inl x4] [] (mI h I)) := by
  refine (Go_iload (y := 171) (ip := 16) (a := 0) (b := 3) (c := 0) (by decide +kernel) rfl).trans ?_
  refine (Go_aload (y := 171) (ip := 17) (a := 0) (b := 0) (c := 0) (by decide +kernel) rfl).trans ?_
  refine (Go_aload (y := 171) (ip := 18) (a := 0) (b := 0) (c := 0) (by decide +kernel) rfl).trans ?_
  refine (Go_iload (y := 171) (ip := 19) (a := 0) (b := 2) (c := 0) (by decide +kernel) rfl).trans ?_
  refine (Go_iload (y := 171) (ip := 20) (a := 0) (b := 4) (c := 0) (by decide +kernel) rfl).trans ?_
  refine (Go_call2 (y := 171) (ip := 21) (a := 166) (z := 169) (c := 0) (as := [.inr (.inl (some 94)), .inl x2, .inl x4]) (rest := [.inr (.inl (some 94)), .inl x3]) (by decide +kernel) (by decide +kernel) rfl rfl (zrecv_v rfl (LX_t p0)) rfl).trans ?_
  rfl

theorem b171_22 {h : HP} {I : Nat → Int → Int} {x1 : Int} {x2 : Int} {x3 : Int} {x4 : Int} {sx0 : Int} {sx2 : Int} (p0 : LX 11 h 94) : Go 171 22 [.inr (.inl (some 94)), .inl x1, .inl x2, .inl x3, .inl x4] [.inl sx2, .inr (.inl (some 94)), .inl sx0] (mI h I) = caln 171 [.inr (.inl (some 94)), .inl x1, .inl x2, .inl x3, .inl x4] [.inl sx0] 23 (Go 170 0 [.inr (.inl (some 94)), .inl sx2, vU] [] (mI h I)) := by
  refine (Go_call2 (y := 171) (ip := 22) (a := 167) (z := 170) (c := 0) (as := [.inr (.inl (some 94)), .inl sx2]) (rest := [.inl sx0]) (by decide +kernel) (by decide +kernel) rfl rfl (zrecv_v rfl (LX_t p0)) rfl).trans ?_
  rfl

theorem b171_23 {h : HP} {I : Nat → Int → Int} {x1 : Int} {x2 : Int} {x3 : Int} {x4 : Int} {sx0 : Int} {sx1 : Int} (p0 : rgI (x4 + 2)) : Go 171 23 [.inr (.inl (some 94)), .inl x1, .inl x2, .inl x3, .inl x4] [.inl sx1, .inl sx0] (mI h I) = Go 171 10 [.inr (.inl (some 94)), .inl x1, .inl x2, .inl (zor sx0 sx1), .inl (x4 + 2)] [] (mI h I) := by
  refine (Go_ar (op := 11) (x := zor sx0 sx1) (y := 171) (ip := 23) (a := 0) (b := 0) (c := 0) (by decide +kernel) rfl rfl).trans ?_
  refine (Go_istore (y := 171) (ip := 24) (a := 0) (b := 3) (c := 0) (by decide +kernel) rfl).trans ?_
  refine (Go_iinc (y := 171) (ip := 25) (a := 2) (b := 4) (c := 0) (by decide +kernel) rfl p0).trans ?_
  refine (Go_goto (y := 171) (ip := 26) (a := 0) (b := 0) (c := 10) (by decide +kernel)).trans ?_
  rfl

theorem b171_27 {h : HP} {I : Nat → Int → Int} {x1 : Int} {x2 : Int} {x3 : Int} {v4 : MV} (p0 : LX 11 h 94) (p1 : 0 ≤ x2 ∧ x2 < 120) : Go 171 27 [.inr (.inl (some 94)), .inl x1, .inl x2, .inl x3, v4] [] (mI h I) = if I 95 x2 ≠ 2 then Go 171 68 [.inr (.inl (some 94)), .inl x1, .inl x2, .inl x3, v4] [] (mI h I) else Go 171 33 [.inr (.inl (some 94)), .inl x1, .inl x2, .inl x3, v4] [] (mI h I) := by
  refine (Go_aload (y := 171) (ip := 27) (a := 0) (b := 0) (c := 0) (by decide +kernel) rfl).trans ?_
  refine (Go_getR2 (r1 := some 95) (y := 171) (ip := 28) (a := 127) (b := 11) (c := 1) (by decide +kernel) rfl (LX_t p0) (LX_r p0 1 false 1 0 120 rfl)).trans ?_
  refine (Go_iload (y := 171) (ip := 29) (a := 0) (b := 2) (c := 0) (by decide +kernel) rfl).trans ?_
  refine (Go_ald (y := 171) (ip := 30) (a := 0) (b := 0) (c := 0) (by decide +kernel) rfl (LX_k p0 1 false 1 0 120 rfl) rfl p1).trans ?_
  refine (Go_const (y := 171) (ip := 31) (a := 2) (b := 0) (c := 0) (by decide +kernel)).trans ?_
  refine (Go_cmpne (y := 171) (ip := 32) (a := 0) (c := 68) (by decide +kernel)).trans ?_
  rfl

theorem b171_33 {h : HP} {I : Nat → Int → Int} {x1 : Int} {x2 : Int} {x3 : Int} {v4 : MV} (p0 : LX 11 h 94) : Go 171 33 [.inr (.inl (some 94)), .inl x1, .inl x2, .inl x3, v4] [] (mI h I) = caln 171 [.inr (.inl (some 94)), .inl x1, .inl x2, .inl x3, v4] [.inr (.inl (some 94))] 38 (Go 169 0 [.inr (.inl (some 94)), .inl x2, .inl 0] [] (mI h I)) := by
  refine (Go_aload (y := 171) (ip := 33) (a := 0) (b := 0) (c := 0) (by decide +kernel) rfl).trans ?_
  refine (Go_aload (y := 171) (ip := 34) (a := 0) (b := 0) (c := 0) (by decide +kernel) rfl).trans ?_
  refine (Go_iload (y := 171) (ip := 35) (a := 0) (b := 2) (c := 0) (by decide +kernel) rfl).trans ?_
  refine (Go_const (y := 171) (ip := 36) (a := 0) (b := 0) (c := 0) (by decide +kernel)).trans ?_
  refine (Go_call2 (y := 171) (ip := 37) (a := 166) (z := 169) (c := 0) (as := [.inr (.inl (some 94)), .inl x2, .inl 0]) (rest := [.inr (.inl (some 94))]) (by decide +kernel) (by decide +kernel) rfl rfl (zrecv_v rfl (LX_t p0)) rfl).trans ?_
  rfl

theorem b171_38 {h : HP} {I : Nat → Int → Int} {x1 : Int} {x2 : Int} {x3 : Int} {v4 : MV} {sx1 : Int} (p0 : LX 11 h 94) : Go 171 38 [.inr (.inl (some 94)), .inl x1, .inl x2, .inl x3, v4] [.inl sx1, .inr (.inl (some 94))] (mI h I) = caln 171 [.inr (.inl (some 94)), .inl x1, .inl x2, .inl x3, v4] [] 39 (Go 170 0 [.inr (.inl (some 94)), .inl sx1, vU] [] (mI h I)) := by
  refine (Go_call2 (y := 171) (ip := 38) (a := 167) (z := 170) (c := 0) (as := [.inr (.inl (some 94)), .inl sx1]) (rest := []) (by decide +kernel) (by decide +kernel) rfl rfl (zrecv_v rfl (LX_t p0)) rfl).trans ?_
  rfl

theorem b171_39 {h : HP} {I : Nat → Int → Int} {x1 : Int} {x2 : Int} {x3 : Int} {v4 : MV} {sx0 : Int} : Go 171 39 [.inr (.inl (some 94)), .inl x1, .inl x2, .inl x3, v4] [.inl sx0] (mI h I) = Go 171 42 [.inr (.inl (some 94)), .inl x1, .inl x2, .inl sx0, .inl 2] [] (mI h I) := by
  refine (Go_istore (y := 171) (ip := 39) (a := 0) (b := 3) (c := 0) (by decide +kernel) rfl).trans ?_
  refine (Go_const (y := 171) (ip := 40) (a := 2) (b := 0) (c := 0) (by decide +kernel)).trans ?_
  refine (Go_istore (y := 171) (ip := 41) (a := 0) (b := 4) (c := 0) (by decide +kernel) rfl).trans ?_
  rfl

theorem b171_42 {h : HP} {I : Nat → Int → Int} {x1 : Int} {x2 : Int} {x3 : Int} {x4 : Int} (p0 : LX 11 h 94) (p1 : 0 ≤ x2 ∧ x2 < 120) : Go 171 42 [.inr (.inl (some 94)), .inl x1, .inl x2, .inl x3, .inl x4] [] (mI h I) = if I 96 x2 ≤ x4 then Go 171 68 [.inr (.inl (some 94)), .inl x1, .inl x2, .inl x3, .inl x4] [] (mI h I) else Go 171 48 [.inr (.inl (some 94)), .inl x1, .inl x2, .inl x3, .inl x4] [] (mI h I) := by
  refine (Go_iload (y := 171) (ip := 42) (a := 0) (b := 4) (c := 0) (by decide +kernel) rfl).trans ?_
  refine (Go_aload (y := 171) (ip := 43) (a := 0) (b := 0) (c := 0) (by decide +kernel) rfl).trans ?_
  refine (Go_getR2 (r1 := some 96) (y := 171) (ip := 44) (a := 128) (b := 11) (c := 2) (by decide +kernel) rfl (LX_t p0) (LX_r p0 2 false 2 0 120 rfl)).trans ?_
  refine (Go_iload (y := 171) (ip := 45) (a := 0) (b := 2) (c := 0) (by decide +kernel) rfl).trans ?_
  refine (Go_ald (y := 171) (ip := 46) (a := 0) (b := 0) (c := 0) (by decide +kernel) rfl (LX_k p0 2 false 2 0 120 rfl) rfl p1).trans ?_
  refine (Go_cmpge (y := 171) (ip := 47) (a := 0) (c := 68) (by decide +kernel)).trans ?_
  rfl

theorem b171_48 {h : HP} {I : Nat → Int → Int} {x1 : Int} {x2 : Int} {x3 : Int} {x4 : Int} (p0 : LX 11 h 94) (p1 : rgI (120 * x1)) (p2 : rgI ((120 * x1) + x2)) (p3 : 0 ≤ (120 * x1) + x2 ∧ (120 * x1) + x2 < 240) : Go 171 48 [.inr (.inl (some 94)), .inl x1, .inl x2, .inl x3, .inl x4] [] (mI h I) = if I 116 ((120 * x1) + x2) ≠ 0 then Go 171 68 [.inr (.inl (some 94)), .inl x1, .inl x2, .inl x3, .inl x4] [] (mI h I) else Go 171 57 [.inr (.inl (some 94)), .inl x1, .inl x2, .inl x3, .inl x4] [] (mI h I) := by
  refine (Go_aload (y := 171) (ip := 48) (a := 0) (b := 0) (c := 0) (by decide +kernel) rfl).trans ?_
  refine (Go_getR2 (r1 := some 116) (y := 171) (ip := 49) (a := 148) (b := 11) (c := 25) (by decide +kernel) rfl (LX_t p0) (LX_r p0 25 false 22 1 240 rfl)).trans ?_
  refine (Go_const (y := 171) (ip := 50) (a := 120) (b := 0) (c := 0) (by decide +kernel)).trans ?_
  refine (Go_iload (y := 171) (ip := 51) (a := 0) (b := 1) (c := 0) (by decide +kernel) rfl).trans ?_
  refine (Go_ar (op := 6) (x := 120 * x1) (y := 171) (ip := 52) (a := 0) (b := 0) (c := 0) (by decide +kernel) rfl (zar6 p1)).trans ?_
  refine (Go_iload (y := 171) (ip := 53) (a := 0) (b := 2) (c := 0) (by decide +kernel) rfl).trans ?_
  refine (Go_ar (op := 4) (x := (120 * x1) + x2) (y := 171) (ip := 54) (a := 0) (b := 0) (c := 0) (by decide +kernel) rfl (zar4 p2)).trans ?_
  refine (Go_ald (y := 171) (ip := 55) (a := 0) (b := 1) (c := 0) (by decide +kernel) rfl (LX_k p0 25 false 22 1 240 rfl) rfl p3).trans ?_
  refine (Go_ifne (y := 171) (ip := 56) (a := 0) (c := 68) (by decide +kernel)).trans ?_
  rfl

theorem b171_57 {h : HP} {I : Nat → Int → Int} {x1 : Int} {x2 : Int} {x3 : Int} {x4 : Int} (p0 : LX 11 h 94) : Go 171 57 [.inr (.inl (some 94)), .inl x1, .inl x2, .inl x3, .inl x4] [] (mI h I) = caln 171 [.inr (.inl (some 94)), .inl x1, .inl x2, .inl x3, .inl x4] [.inr (.inl (some 94)), .inl x3] 63 (Go 169 0 [.inr (.inl (some 94)), .inl x2, .inl x4] [] (mI h I)) := by
  refine (Go_iload (y := 171) (ip := 57) (a := 0) (b := 3) (c := 0) (by decide +kernel) rfl).trans ?_
  refine (Go_aload (y := 171) (ip := 58) (a := 0) (b := 0) (c := 0) (by decide +kernel) rfl).trans ?_
  refine (Go_aload (y := 171) (ip := 59) (a := 0) (b := 0) (c := 0) (by decide +kernel) rfl).trans ?_
  refine (Go_iload (y := 171) (ip := 60) (a := 0) (b := 2) (c := 0) (by decide +kernel) rfl).trans ?_
  refine (Go_iload (y := 171) (ip := 61) (a := 0) (b := 4) (c := 0) (by decide +kernel) rfl).trans ?_
  refine (Go_call2 (y := 171) (ip := 62) (a := 166) (z := 169) (c := 0) (as := [.inr (.inl (some 94)), .inl x2, .inl x4]) (rest := [.inr (.inl (some 94)), .inl x3]) (by decide +kernel) (by decide +kernel) rfl rfl (zrecv_v rfl (LX_t p0)) rfl).trans ?_
  rfl

theorem b171_63 {h : HP} {I : Nat → Int → Int} {x1 : Int} {x2 : Int} {x3 : Int} {x4 : Int} {sx0 : Int} {sx2 : Int} (p0 : LX 11 h 94) : Go 171 63 [.inr (.inl (some 94)), .inl x1, .inl x2, .inl x3, .inl x4] [.inl sx2, .inr (.inl (some 94)), .inl sx0] (mI h I) = caln 171 [.inr (.inl (some 94)), .inl x1, .inl x2, .inl x3, .inl x4] [.inl sx0] 64 (Go 170 0 [.inr (.inl (some 94)), .inl sx2, vU] [] (mI h I)) := by
  refine (Go_call2 (y := 171) (ip := 63) (a := 167) (z := 170) (c := 0) (as := [.inr (.inl (some 94)), .inl sx2]) (rest := [.inl sx0]) (by decide +kernel) (by decide +kernel) rfl rfl (zrecv_v rfl (LX_t p0)) rfl).trans ?_
  rfl

theorem b171_64 {h : HP} {I : Nat → Int → Int} {x1 : Int} {x2 : Int} {x3 : Int} {x4 : Int} {sx0 : Int} {sx1 : Int} (p0 : rgI (x4 + 1)) : Go 171 64 [.inr (.inl (some 94)), .inl x1, .inl x2, .inl x3, .inl x4] [.inl sx1, .inl sx0] (mI h I) = Go 171 42 [.inr (.inl (some 94)), .inl x1, .inl x2, .inl (zor sx0 sx1), .inl (x4 + 1)] [] (mI h I) := by
  refine (Go_ar (op := 11) (x := zor sx0 sx1) (y := 171) (ip := 64) (a := 0) (b := 0) (c := 0) (by decide +kernel) rfl rfl).trans ?_
  refine (Go_istore (y := 171) (ip := 65) (a := 0) (b := 3) (c := 0) (by decide +kernel) rfl).trans ?_
  refine (Go_iinc (y := 171) (ip := 66) (a := 1) (b := 4) (c := 0) (by decide +kernel) rfl p0).trans ?_
  refine (Go_goto (y := 171) (ip := 67) (a := 0) (b := 0) (c := 42) (by decide +kernel)).trans ?_
  rfl

theorem b171_68 {h : HP} {I : Nat → Int → Int} {x1 : Int} {x2 : Int} {x3 : Int} {v4 : MV} (p0 : LX 11 h 94) (p1 : 0 ≤ x2 ∧ x2 < 120) : Go 171 68 [.inr (.inl (some 94)), .inl x1, .inl x2, .inl x3, v4] [] (mI h I) = if I 95 x2 ≠ 3 then Go 171 81 [.inr (.inl (some 94)), .inl x1, .inl x2, .inl x3, v4] [] (mI h I) else Go 171 74 [.inr (.inl (some 94)), .inl x1, .inl x2, .inl x3, v4] [] (mI h I) := by
  refine (Go_aload (y := 171) (ip := 68) (a := 0) (b := 0) (c := 0) (by decide +kernel) rfl).trans ?_
  refine (Go_getR2 (r1 := some 95) (y := 171) (ip := 69) (a := 127) (b := 11) (c := 1) (by decide +kernel) rfl (LX_t p0) (LX_r p0 1 false 1 0 120 rfl)).trans ?_
  refine (Go_iload (y := 171) (ip := 70) (a := 0) (b := 2) (c := 0) (by decide +kernel) rfl).trans ?_
  refine (Go_ald (y := 171) (ip := 71) (a := 0) (b := 0) (c := 0) (by decide +kernel) rfl (LX_k p0 1 false 1 0 120 rfl) rfl p1).trans ?_
  refine (Go_const (y := 171) (ip := 72) (a := 3) (b := 0) (c := 0) (by decide +kernel)).trans ?_
  refine (Go_cmpne (y := 171) (ip := 73) (a := 0) (c := 81) (by decide +kernel)).trans ?_
  rfl

theorem b171_74 {h : HP} {I : Nat → Int → Int} {x1 : Int} {x2 : Int} {x3 : Int} {v4 : MV} (p0 : LX 11 h 94) : Go 171 74 [.inr (.inl (some 94)), .inl x1, .inl x2, .inl x3, v4] [] (mI h I) = caln 171 [.inr (.inl (some 94)), .inl x1, .inl x2, .inl x3, v4] [.inr (.inl (some 94))] 79 (Go 169 0 [.inr (.inl (some 94)), .inl x2, .inl 0] [] (mI h I)) := by
  refine (Go_aload (y := 171) (ip := 74) (a := 0) (b := 0) (c := 0) (by decide +kernel) rfl).trans ?_
  refine (Go_aload (y := 171) (ip := 75) (a := 0) (b := 0) (c := 0) (by decide +kernel) rfl).trans ?_
  refine (Go_iload (y := 171) (ip := 76) (a := 0) (b := 2) (c := 0) (by decide +kernel) rfl).trans ?_
  refine (Go_const (y := 171) (ip := 77) (a := 0) (b := 0) (c := 0) (by decide +kernel)).trans ?_
  refine (Go_call2 (y := 171) (ip := 78) (a := 166) (z := 169) (c := 0) (as := [.inr (.inl (some 94)), .inl x2, .inl 0]) (rest := [.inr (.inl (some 94))]) (by decide +kernel) (by decide +kernel) rfl rfl (zrecv_v rfl (LX_t p0)) rfl).trans ?_
  rfl

theorem b171_79 {h : HP} {I : Nat → Int → Int} {x1 : Int} {x2 : Int} {x3 : Int} {v4 : MV} {sx1 : Int} (p0 : LX 11 h 94) : Go 171 79 [.inr (.inl (some 94)), .inl x1, .inl x2, .inl x3, v4] [.inl sx1, .inr (.inl (some 94))] (mI h I) = caln 171 [.inr (.inl (some 94)), .inl x1, .inl x2, .inl x3, v4] [] 80 (Go 170 0 [.inr (.inl (some 94)), .inl sx1, vU] [] (mI h I)) := by
  refine (Go_call2 (y := 171) (ip := 79) (a := 167) (z := 170) (c := 0) (as := [.inr (.inl (some 94)), .inl sx1]) (rest := []) (by decide +kernel) (by decide +kernel) rfl rfl (zrecv_v rfl (LX_t p0)) rfl).trans ?_
  rfl

theorem b171_80 {h : HP} {I : Nat → Int → Int} {x1 : Int} {x2 : Int} {x3 : Int} {v4 : MV} {sx0 : Int} : Go 171 80 [.inr (.inl (some 94)), .inl x1, .inl x2, .inl x3, v4] [.inl sx0] (mI h I) = Go 171 81 [.inr (.inl (some 94)), .inl x1, .inl x2, .inl sx0, v4] [] (mI h I) := by
  refine (Go_istore (y := 171) (ip := 80) (a := 0) (b := 3) (c := 0) (by decide +kernel) rfl).trans ?_
  rfl

theorem b171_81 {h : HP} {I : Nat → Int → Int} {x1 : Int} {x2 : Int} {x3 : Int} {v4 : MV} (p0 : x3 = 0 ∨ x3 = 1) : Go 171 81 [.inr (.inl (some 94)), .inl x1, .inl x2, .inl x3, v4] [] (mI h I) = some (mI h I, .inl (some (.inl x3))) := by
  refine (Go_iload (y := 171) (ip := 81) (a := 0) (b := 3) (c := 0) (by decide +kernel) rfl).trans ?_
  refine (Go_iret (y := 171) (ip := 82) (a := 0) (b := 0) (c := 0) (by decide +kernel) (Or.inr ⟨rfl, p0⟩)).trans ?_
  rfl

theorem b35_0 {h : HP} {I : Nat → Int → Int} {r0 : Option Nat} {x1 : Int} {v2 : MV} {v3 : MV} : Go 35 0 [.inr (.inl r0), .inl x1, v2, v3] [] (mI h I) = Go 35 2 [.inr (.inl r0), .inl x1, .inl 0, v3] [] (mI h I) := by
  refine (Go_const (y := 35) (ip := 0) (a := 0) (b := 0) (c := 0) (by decide +kernel)).trans ?_
  refine (Go_istore (y := 35) (ip := 1) (a := 0) (b := 2) (c := 0) (by decide +kernel) rfl).trans ?_
  rfl

theorem b35_2 {h : HP} {I : Nat → Int → Int} {a0 : Nat} {x1 : Int} {x2 : Int} {v3 : MV} (p0 : LX 3 h a0) : Go 35 2 [.inr (.inl (some a0)), .inl x1, .inl x2, v3] [] (mI h I) = if I a0 5 ≤ x2 then Go 35 21 [.inr (.inl (some a0)), .inl x1, .inl x2, v3] [] (mI h I) else Go 35 6 [.inr (.inl (some a0)), .inl x1, .inl x2, v3] [] (mI h I) := by
  refine (Go_iload (y := 35) (ip := 2) (a := 0) (b := 2) (c := 0) (by decide +kernel) rfl).trans ?_
  refine (Go_aload (y := 35) (ip := 3) (a := 0) (b := 0) (c := 0) (by decide +kernel) rfl).trans ?_
  refine (Go_getI (y := 35) (ip := 4) (a := 34) (b := 3) (c := 5) (by decide +kernel) rfl (LX_t p0)).trans ?_
  refine (Go_cmpge (y := 35) (ip := 5) (a := 0) (c := 21) (by decide +kernel)).trans ?_
  rfl

theorem b35_6 {h : HP} {I : Nat → Int → Int} {a0 : Nat} {x1 : Int} {x2 : Int} {v3 : MV} (p0 : LX 3 h a0) : Go 35 6 [.inr (.inl (some a0)), .inl x1, .inl x2, v3] [] (mI h I) = caln 35 [.inr (.inl (some a0)), .inl x1, .inl x2, v3] [] 9 (Go 33 0 [.inr (.inl (some a0)), .inl x2] [] (mI h I)) := by
  refine (Go_aload (y := 35) (ip := 6) (a := 0) (b := 0) (c := 0) (by decide +kernel) rfl).trans ?_
  refine (Go_iload (y := 35) (ip := 7) (a := 0) (b := 2) (c := 0) (by decide +kernel) rfl).trans ?_
  refine (Go_call2 (y := 35) (ip := 8) (a := 30) (z := 33) (c := 0) (as := [.inr (.inl (some a0)), .inl x2]) (rest := []) (by decide +kernel) (by decide +kernel) rfl rfl (zrecv_v rfl (LX_t p0)) rfl).trans ?_
  rfl

theorem b35_9 {h : HP} {I : Nat → Int → Int} {r0 : Option Nat} {x1 : Int} {x2 : Int} {v3 : MV} {sr0 : Option Nat} : Go 35 9 [.inr (.inl r0), .inl x1, .inl x2, v3] [.inr (.inl sr0)] (mI h I) = if sr0 = none then Go 35 19 [.inr (.inl r0), .inl x1, .inl x2, .inr (.inl sr0)] [] (mI h I) else Go 35 12 [.inr (.inl r0), .inl x1, .inl x2, .inr (.inl sr0)] [] (mI h I) := by
  refine (Go_astore (y := 35) (ip := 9) (a := 0) (b := 3) (c := 0) (by decide +kernel) rfl).trans ?_
  refine (Go_aload (y := 35) (ip := 10) (a := 0) (b := 3) (c := 0) (by decide +kernel) rfl).trans ?_
  refine (Go_null0 (y := 35) (ip := 11) (a := 0) (b := 0) (c := 19) (by decide +kernel)).trans ?_
  rfl

theorem b35_12 {h : HP} {I : Nat → Int → Int} {r0 : Option Nat} {x1 : Int} {x2 : Int} {a3 : Nat} (p0 : LX 5 h a3) : Go 35 12 [.inr (.inl r0), .inl x1, .inl x2, .inr (.inl (some a3))] [] (mI h I) = caln 35 [.inr (.inl r0), .inl x1, .inl x2, .inr (.inl (some a3))] [] 15 (Go 56 0 [.inr (.inl (some a3)), .inl x1] [] (mI h I)) := by
  refine (Go_aload (y := 35) (ip := 12) (a := 0) (b := 3) (c := 0) (by decide +kernel) rfl).trans ?_
  refine (Go_iload (y := 35) (ip := 13) (a := 0) (b := 1) (c := 0) (by decide +kernel) rfl).trans ?_
  refine (Go_call2 (y := 35) (ip := 14) (a := 31) (z := 56) (c := 0) (as := [.inr (.inl (some a3)), .inl x1]) (rest := []) (by decide +kernel) (by decide +kernel) rfl rfl (zrecv_v rfl (LX_t p0)) rfl).trans ?_
  rfl

theorem b35_15 {h : HP} {I : Nat → Int → Int} {r0 : Option Nat} {x1 : Int} {x2 : Int} {r3 : Option Nat} {sx0 : Int} : Go 35 15 [.inr (.inl r0), .inl x1, .inl x2, .inr (.inl r3)] [.inl sx0] (mI h I) = if sx0 = -1 then Go 35 19 [.inr (.inl r0), .inl x1, .inl x2, .inr (.inl r3)] [] (mI h I) else Go 35 17 [.inr (.inl r0), .inl x1, .inl x2, .inr (.inl r3)] [] (mI h I) := by
  refine (Go_const (y := 35) (ip := 15) (a := (-1)) (b := 0) (c := 0) (by decide +kernel)).trans ?_
  refine (Go_cmpeq (y := 35) (ip := 16) (a := 0) (c := 19) (by decide +kernel)).trans ?_
  rfl

theorem b35_17 {h : HP} {I : Nat → Int → Int} {r0 : Option Nat} {x1 : Int} {x2 : Int} {r3 : Option Nat} : Go 35 17 [.inr (.inl r0), .inl x1, .inl x2, .inr (.inl r3)] [] (mI h I) = some (mI h I, .inl (some (.inl 1))) := by
  refine (Go_const (y := 35) (ip := 17) (a := 1) (b := 0) (c := 0) (by decide +kernel)).trans ?_
  refine (Go_iret (y := 35) (ip := 18) (a := 0) (b := 0) (c := 0) (by decide +kernel) (Or.inr ⟨rfl, by decide⟩)).trans ?_
  rfl

theorem b35_19 {h : HP} {I : Nat → Int → Int} {r0 : Option Nat} {x1 : Int} {x2 : Int} {r3 : Option Nat} (p0 : rgI (x2 + 1)) : Go 35 19 [.inr (.inl r0), .inl x1, .inl x2, .inr (.inl r3)] [] (mI h I) = Go 35 2 [.inr (.inl r0), .inl x1, .inl (x2 + 1), .inr (.inl r3)] [] (mI h I) := by
  refine (Go_iinc (y := 35) (ip := 19) (a := 1) (b := 2) (c := 0) (by decide +kernel) rfl p0).trans ?_
  refine (Go_goto (y := 35) (ip := 20) (a := 0) (b := 0) (c := 2) (by decide +kernel)).trans ?_
  rfl

theorem b35_21 {h : HP} {I : Nat → Int → Int} {r0 : Option Nat} {x1 : Int} {x2 : Int} {v3 : MV} : Go 35 21 [.inr (.inl r0), .inl x1, .inl x2, v3] [] (mI h I) = some (mI h I, .inl (some (.inl 0))) := by
  refine (Go_const (y := 35) (ip := 21) (a := 0) (b := 0) (c := 0) (by decide +kernel)).trans ?_
  refine (Go_iret (y := 35) (ip := 22) (a := 0) (b := 0) (c := 0) (by decide +kernel) (Or.inr ⟨rfl, by decide⟩)).trans ?_
  rfl

theorem b40_0 {h : HP} {I : Nat → Int → Int} {a0 : Nat} {x1 : Int} {x2 : Int} (p0 : LX 3 h a0) : Go 40 0 [.inr (.inl (some a0)), .inl x1, .inl x2] [] (mI h I) = if I a0 12 < 30 then Go 40 8 [.inr (.inl (some a0)), .inl x1, .inl x2] [] (mI h I) else Go 40 4 [.inr (.inl (some a0)), .inl x1, .inl x2] [] (mI h I) := by
  refine (Go_aload (y := 40) (ip := 0) (a := 0) (b := 0) (c := 0) (by decide +kernel) rfl).trans ?_
  refine (Go_getI (y := 40) (ip := 1) (a := 36) (b := 3) (c := 12) (by decide +kernel) rfl (LX_t p0)).trans ?_
  refine (Go_const (y := 40) (ip := 2) (a := 30) (b := 0) (c := 0) (by decide +kernel)).trans ?_
  refine (Go_cmplt (y := 40) (ip := 3) (a := 0) (c := 8) (by decide +kernel)).trans ?_
  rfl

theorem b40_4 {h : HP} {I : Nat → Int → Int} {a0 : Nat} {x1 : Int} {x2 : Int} (p0 : LX 3 h a0) : Go 40 4 [.inr (.inl (some a0)), .inl x1, .inl x2] [] (mI h I) = caln 40 [.inr (.inl (some a0)), .inl x1, .inl x2] [] 7 (Go 51 0 [.inr (.inl (some a0)), .inl 1073741823, vU, vU, vU, vU] [] (mI h I)) := by
  refine (Go_aload (y := 40) (ip := 4) (a := 0) (b := 0) (c := 0) (by decide +kernel) rfl).trans ?_
  refine (Go_ldc (y := 40) (ip := 5) (a := 1073741823) (b := 0) (c := 0) (by decide +kernel)).trans ?_
  refine (Go_call2 (y := 40) (ip := 6) (a := 36) (z := 51) (c := 0) (as := [.inr (.inl (some a0)), .inl 1073741823]) (rest := []) (by decide +kernel) (by decide +kernel) rfl rfl (zrecv_v rfl (LX_t p0)) rfl).trans ?_
  rfl

theorem b40_7 {h : HP} {I : Nat → Int → Int} {r0 : Option Nat} {x1 : Int} {x2 : Int} {sx0 : Int} : Go 40 7 [.inr (.inl r0), .inl x1, .inl x2] [.inl sx0] (mI h I) = Go 40 8 [.inr (.inl r0), .inl x1, .inl x2] [] (mI h I) := by
  refine (Go_popI (y := 40) (ip := 7) (a := 0) (b := 0) (c := 0) (by decide +kernel)).trans ?_
  rfl

theorem b40_8 {h : HP} {I : Nat → Int → Int} {a0 : Nat} {x1 : Int} {x2 : Int} (p0 : LX 3 h a0) (p1 : 0 ≤ I a0 12 ∧ I a0 12 < 30) (p2 : 0 ≤ (zu2 I (a0 + 16) (I a0 12) x1) a0 12 ∧ (zu2 I (a0 + 16) (I a0 12) x1) a0 12 < 30) (p3 : 0 ≤ (zu2 (zu2 I (a0 + 16) (I a0 12) x1) (a0 + 17) ((zu2 I (a0 + 16) (I a0 12) x1) a0 12) x2) a0 12 ∧ (zu2 (zu2 I (a0 + 16) (I a0 12) x1) (a0 + 17) ((zu2 I (a0 + 16) (I a0 12) x1) a0 12) x2) a0 12 < 30) (p4 : rgI (((zu2 (zu2 (zu2 I (a0 + 16) (I a0 12) x1) (a0 + 17) ((zu2 I (a0 + 16) (I a0 12) x1) a0 12) x2) (a0 + 18) ((zu2 (zu2 I (a0 + 16) (I a0 12) x1) (a0 + 17) ((zu2 I (a0 + 16) (I a0 12) x1) a0 12) x2) a0 12) 0) a0 12) + 1)) : Go 40 8 [.inr (.inl (some a0)), .inl x1, .inl x2] [] (mI h I) = some (mI h (zu2 (zu2 (zu2 (zu2 I (a0 + 16) (I a0 12) x1) (a0 + 17) ((zu2 I (a0 + 16) (I a0 12) x1) a0 12) x2) (a0 + 18) ((zu2 (zu2 I (a0 + 16) (I a0 12) x1) (a0 + 17) ((zu2 I (a0 + 16) (I a0 12) x1) a0 12) x2) a0 12) 0) a0 12 (((zu2 (zu2 (zu2 I (a0 + 16) (I a0 12) x1) (a0 + 17) ((zu2 I (a0 + 16) (I a0 12) x1) a0 12) x2) (a0 + 18) ((zu2 (zu2 I (a0 + 16) (I a0 12) x1) (a0 + 17) ((zu2 I (a0 + 16) (I a0 12) x1) a0 12) x2) a0 12) 0) a0 12) + 1)), .inl none) := by
  refine (Go_aload (y := 40) (ip := 8) (a := 0) (b := 0) (c := 0) (by decide +kernel) rfl).trans ?_
  refine (Go_getR2 (r1 := some (a0 + 16)) (y := 40) (ip := 9) (a := 30) (b := 3) (c := 8) (by decide +kernel) rfl (LX_t p0) (LX_r p0 8 false 16 0 30 rfl)).trans ?_
  refine (Go_aload (y := 40) (ip := 10) (a := 0) (b := 0) (c := 0) (by decide +kernel) rfl).trans ?_
  refine (Go_getI (y := 40) (ip := 11) (a := 36) (b := 3) (c := 12) (by decide +kernel) rfl (LX_t p0)).trans ?_
  refine (Go_iload (y := 40) (ip := 12) (a := 0) (b := 1) (c := 0) (by decide +kernel) rfl).trans ?_
  refine (Go_ast (y := 40) (ip := 13) (a := 0) (b := 0) (c := 0) (by decide +kernel) (LX_k p0 8 false 16 0 30 rfl) p1 (Or.inl rfl)).trans ?_
  refine (Go_aload (y := 40) (ip := 14) (a := 0) (b := 0) (c := 0) (by decide +kernel) rfl).trans ?_
  refine (Go_getR2 (r1 := some (a0 + 17)) (y := 40) (ip := 15) (a := 31) (b := 3) (c := 9) (by decide +kernel) rfl (LX_t p0) (LX_r p0 9 false 17 0 30 rfl)).trans ?_
  refine (Go_aload (y := 40) (ip := 16) (a := 0) (b := 0) (c := 0) (by decide +kernel) rfl).trans ?_
  refine (Go_getI (y := 40) (ip := 17) (a := 36) (b := 3) (c := 12) (by decide +kernel) rfl (LX_t p0)).trans ?_
  refine (Go_iload (y := 40) (ip := 18) (a := 0) (b := 2) (c := 0) (by decide +kernel) rfl).trans ?_
  refine (Go_ast (y := 40) (ip := 19) (a := 0) (b := 0) (c := 0) (by decide +kernel) (LX_k p0 9 false 17 0 30 rfl) p2 (Or.inl rfl)).trans ?_
  refine (Go_aload (y := 40) (ip := 20) (a := 0) (b := 0) (c := 0) (by decide +kernel) rfl).trans ?_
  refine (Go_getR2 (r1 := some (a0 + 18)) (y := 40) (ip := 21) (a := 32) (b := 3) (c := 10) (by decide +kernel) rfl (LX_t p0) (LX_r p0 10 false 18 1 30 rfl)).trans ?_
  refine (Go_aload (y := 40) (ip := 22) (a := 0) (b := 0) (c := 0) (by decide +kernel) rfl).trans ?_
  refine (Go_getI (y := 40) (ip := 23) (a := 36) (b := 3) (c := 12) (by decide +kernel) rfl (LX_t p0)).trans ?_
  refine (Go_const (y := 40) (ip := 24) (a := 0) (b := 0) (c := 0) (by decide +kernel)).trans ?_
  refine (Go_ast (y := 40) (ip := 25) (a := 0) (b := 1) (c := 0) (by decide +kernel) (LX_k p0 10 false 18 1 30 rfl) p3 (Or.inr ⟨rfl, by decide⟩)).trans ?_
  refine (Go_aload (y := 40) (ip := 26) (a := 0) (b := 0) (c := 0) (by decide +kernel) rfl).trans ?_
  refine (Go_dupR (y := 40) (ip := 27) (a := 0) (b := 0) (c := 0) (by decide +kernel)).trans ?_
  refine (Go_getI (y := 40) (ip := 28) (a := 36) (b := 3) (c := 12) (by decide +kernel) rfl (LX_t p0)).trans ?_
  refine (Go_const (y := 40) (ip := 29) (a := 1) (b := 0) (c := 0) (by decide +kernel)).trans ?_
  refine (Go_ar (op := 4) (x := ((zu2 (zu2 (zu2 I (a0 + 16) (I a0 12) x1) (a0 + 17) ((zu2 I (a0 + 16) (I a0 12) x1) a0 12) x2) (a0 + 18) ((zu2 (zu2 I (a0 + 16) (I a0 12) x1) (a0 + 17) ((zu2 I (a0 + 16) (I a0 12) x1) a0 12) x2) a0 12) 0) a0 12) + 1) (y := 40) (ip := 30) (a := 0) (b := 0) (c := 0) (by decide +kernel) rfl (zar4 p4)).trans ?_
  refine (Go_putI (y := 40) (ip := 31) (a := 36) (b := 3) (c := 12) (by decide +kernel) (LX_t p0) (Or.inl rfl)).trans ?_
  refine (Go_vret (y := 40) (ip := 32) (a := 0) (b := 0) (c := 0) (by decide +kernel) rfl).trans ?_
  rfl

theorem b99_0 {h : HP} {I : Nat → Int → Int} {x1 : Int} : Go 99 0 [.inr (.inl (some 1)), .inl x1] [] (mI h I) = if x1 < 0 then Go 99 5 [.inr (.inl (some 1)), .inl x1] [] (mI h I) else Go 99 2 [.inr (.inl (some 1)), .inl x1] [] (mI h I) := by
  refine (Go_iload (y := 99) (ip := 0) (a := 0) (b := 1) (c := 0) (by decide +kernel) rfl).trans ?_
  refine (Go_iflt (y := 99) (ip := 1) (a := 0) (c := 5) (by decide +kernel)).trans ?_
  rfl

theorem b99_2 {h : HP} {I : Nat → Int → Int} {x1 : Int} : Go 99 2 [.inr (.inl (some 1)), .inl x1] [] (mI h I) = if x1 ≤ 9999 then Go 99 6 [.inr (.inl (some 1)), .inl x1] [] (mI h I) else Go 99 5 [.inr (.inl (some 1)), .inl x1] [] (mI h I) := by
  refine (Go_iload (y := 99) (ip := 2) (a := 0) (b := 1) (c := 0) (by decide +kernel) rfl).trans ?_
  refine (Go_const (y := 99) (ip := 3) (a := 9999) (b := 0) (c := 0) (by decide +kernel)).trans ?_
  refine (Go_cmple (y := 99) (ip := 4) (a := 0) (c := 6) (by decide +kernel)).trans ?_
  rfl

theorem b99_5 {h : HP} {I : Nat → Int → Int} {x1 : Int} : Go 99 5 [.inr (.inl (some 1)), .inl x1] [] (mI h I) = some (mI (hThr h) I, .inr 1) := by
  refine (Go_throw (y := 99) (ip := 5) (a := 0) (b := 1) (c := 0) (by decide +kernel) rfl).trans ?_
  rfl

theorem b99_6 {h : HP} {I : Nat → Int → Int} {x1 : Int} (p0 : LX 10 h 1) : Go 99 6 [.inr (.inl (some 1)), .inl x1] [] (mI h I) = if I 1 11 < 0 then Go 99 13 [.inr (.inl (some 1)), .inl x1] [] (mI h I) else Go 99 9 [.inr (.inl (some 1)), .inl x1] [] (mI h I) := by
  refine (Go_aload (y := 99) (ip := 6) (a := 0) (b := 0) (c := 0) (by decide +kernel) rfl).trans ?_
  refine (Go_getI (y := 99) (ip := 7) (a := 97) (b := 10) (c := 11) (by decide +kernel) rfl (LX_t p0)).trans ?_
  refine (Go_iflt (y := 99) (ip := 8) (a := 0) (c := 13) (by decide +kernel)).trans ?_
  rfl

theorem b99_9 {h : HP} {I : Nat → Int → Int} {x1 : Int} (p0 : LX 10 h 1) : Go 99 9 [.inr (.inl (some 1)), .inl x1] [] (mI h I) = if I 1 11 < 12 then Go 99 14 [.inr (.inl (some 1)), .inl x1] [] (mI h I) else Go 99 13 [.inr (.inl (some 1)), .inl x1] [] (mI h I) := by
  refine (Go_aload (y := 99) (ip := 9) (a := 0) (b := 0) (c := 0) (by decide +kernel) rfl).trans ?_
  refine (Go_getI (y := 99) (ip := 10) (a := 97) (b := 10) (c := 11) (by decide +kernel) rfl (LX_t p0)).trans ?_
  refine (Go_const (y := 99) (ip := 11) (a := 12) (b := 0) (c := 0) (by decide +kernel)).trans ?_
  refine (Go_cmplt (y := 99) (ip := 12) (a := 0) (c := 14) (by decide +kernel)).trans ?_
  rfl

theorem b99_13 {h : HP} {I : Nat → Int → Int} {x1 : Int} : Go 99 13 [.inr (.inl (some 1)), .inl x1] [] (mI h I) = some (mI (hThr h) I, .inr 2) := by
  refine (Go_throw (y := 99) (ip := 13) (a := 0) (b := 2) (c := 1) (by decide +kernel) rfl).trans ?_
  rfl

theorem b99_14 {h : HP} {I : Nat → Int → Int} {x1 : Int} (p0 : LX 10 h 1) (p1 : 0 ≤ I 1 11 ∧ I 1 11 < 12) (p2 : rgI (((zu2 I 92 (I 1 11) x1) 1 11) + 1)) : Go 99 14 [.inr (.inl (some 1)), .inl x1] [] (mI h I) = some (mI h (zu2 (zu2 I 92 (I 1 11) x1) 1 11 (((zu2 I 92 (I 1 11) x1) 1 11) + 1)), .inl (some (.inl ((zu2 (zu2 I 92 (I 1 11) x1) 1 11 (((zu2 I 92 (I 1 11) x1) 1 11) + 1)) 1 11)))) := by
  refine (Go_aload (y := 99) (ip := 14) (a := 0) (b := 0) (c := 0) (by decide +kernel) rfl).trans ?_
  refine (Go_getR2 (r1 := some 92) (y := 99) (ip := 15) (a := 94) (b := 10) (c := 9) (by decide +kernel) rfl (LX_t p0) (LX_r p0 9 false 91 0 12 rfl)).trans ?_
  refine (Go_aload (y := 99) (ip := 16) (a := 0) (b := 0) (c := 0) (by decide +kernel) rfl).trans ?_
  refine (Go_getI (y := 99) (ip := 17) (a := 97) (b := 10) (c := 11) (by decide +kernel) rfl (LX_t p0)).trans ?_
  refine (Go_iload (y := 99) (ip := 18) (a := 0) (b := 1) (c := 0) (by decide +kernel) rfl).trans ?_
  refine (Go_ast (y := 99) (ip := 19) (a := 0) (b := 0) (c := 0) (by decide +kernel) (LX_k p0 9 false 91 0 12 rfl) p1 (Or.inl rfl)).trans ?_
  refine (Go_aload (y := 99) (ip := 20) (a := 0) (b := 0) (c := 0) (by decide +kernel) rfl).trans ?_
  refine (Go_dupR (y := 99) (ip := 21) (a := 0) (b := 0) (c := 0) (by decide +kernel)).trans ?_
  refine (Go_getI (y := 99) (ip := 22) (a := 97) (b := 10) (c := 11) (by decide +kernel) rfl (LX_t p0)).trans ?_
  refine (Go_const (y := 99) (ip := 23) (a := 1) (b := 0) (c := 0) (by decide +kernel)).trans ?_
  refine (Go_ar (op := 4) (x := ((zu2 I 92 (I 1 11) x1) 1 11) + 1) (y := 99) (ip := 24) (a := 0) (b := 0) (c := 0) (by decide +kernel) rfl (zar4 p2)).trans ?_
  refine (Go_putI (y := 99) (ip := 25) (a := 97) (b := 10) (c := 11) (by decide +kernel) (LX_t p0) (Or.inl rfl)).trans ?_
  refine (Go_aload (y := 99) (ip := 26) (a := 0) (b := 0) (c := 0) (by decide +kernel) rfl).trans ?_
  refine (Go_getI (y := 99) (ip := 27) (a := 97) (b := 10) (c := 11) (by decide +kernel) rfl (LX_t p0)).trans ?_
  refine (Go_iret (y := 99) (ip := 28) (a := 0) (b := 0) (c := 0) (by decide +kernel) (Or.inl rfl)).trans ?_
  rfl

theorem b13_0 {h : HP} {I : Nat → Int → Int} {x1 : Int} {r2 : Option Nat} {x3 : Int} {v4 : MV} {v5 : MV} (p0 : LX 0 h 2) : Go 13 0 [.inr (.inl (some 2)), .inl x1, .inr (.inl r2), .inl x3, v4, v5] [] (mI h I) = if 100 ≤ I 2 7 then Go 13 11 [.inr (.inl (some 2)), .inl x1, .inr (.inl r2), .inl x3, v4, v5] [] (mI h I) else Go 13 4 [.inr (.inl (some 2)), .inl x1, .inr (.inl r2), .inl x3, v4, v5] [] (mI h I) := by
  refine (Go_aload (y := 13) (ip := 0) (a := 0) (b := 0) (c := 0) (by decide +kernel) rfl).trans ?_
  refine (Go_getI (y := 13) (ip := 1) (a := 7) (b := 0) (c := 7) (by decide +kernel) rfl (LX_t p0)).trans ?_
  refine (Go_const (y := 13) (ip := 2) (a := 100) (b := 0) (c := 0) (by decide +kernel)).trans ?_
  refine (Go_cmpge (y := 13) (ip := 3) (a := 0) (c := 11) (by decide +kernel)).trans ?_
  rfl

theorem b13_4 {h : HP} {I : Nat → Int → Int} {x1 : Int} {r2 : Option Nat} {x3 : Int} {v4 : MV} {v5 : MV} : Go 13 4 [.inr (.inl (some 2)), .inl x1, .inr (.inl r2), .inl x3, v4, v5] [] (mI h I) = if 12 < x3 then Go 13 11 [.inr (.inl (some 2)), .inl x1, .inr (.inl r2), .inl x3, v4, v5] [] (mI h I) else Go 13 7 [.inr (.inl (some 2)), .inl x1, .inr (.inl r2), .inl x3, v4, v5] [] (mI h I) := by
  refine (Go_iload (y := 13) (ip := 4) (a := 0) (b := 3) (c := 0) (by decide +kernel) rfl).trans ?_
  refine (Go_const (y := 13) (ip := 5) (a := 12) (b := 0) (c := 0) (by decide +kernel)).trans ?_
  refine (Go_cmpgt (y := 13) (ip := 6) (a := 0) (c := 11) (by decide +kernel)).trans ?_
  rfl

theorem b13_7 {h : HP} {I : Nat → Int → Int} {x1 : Int} {a2 : Nat} {x3 : Int} {v4 : MV} {v5 : MV} {n_a2 : Int} (p0 : hK h a2 = (0, n_a2)) : Go 13 7 [.inr (.inl (some 2)), .inl x1, .inr (.inl (some a2)), .inl x3, v4, v5] [] (mI h I) = if x3 ≤ n_a2 then Go 13 13 [.inr (.inl (some 2)), .inl x1, .inr (.inl (some a2)), .inl x3, v4, v5] [] (mI h I) else Go 13 11 [.inr (.inl (some 2)), .inl x1, .inr (.inl (some a2)), .inl x3, v4, v5] [] (mI h I) := by
  refine (Go_iload (y := 13) (ip := 7) (a := 0) (b := 3) (c := 0) (by decide +kernel) rfl).trans ?_
  refine (Go_aload (y := 13) (ip := 8) (a := 0) (b := 2) (c := 0) (by decide +kernel) rfl).trans ?_
  refine (Go_alen (y := 13) (ip := 9) (a := 0) (b := 0) (c := 0) (by decide +kernel) (p0) rfl).trans ?_
  refine (Go_cmple (y := 13) (ip := 10) (a := 0) (c := 13) (by decide +kernel)).trans ?_
  rfl

theorem b13_11 {h : HP} {I : Nat → Int → Int} {x1 : Int} {r2 : Option Nat} {x3 : Int} {v4 : MV} {v5 : MV} : Go 13 11 [.inr (.inl (some 2)), .inl x1, .inr (.inl r2), .inl x3, v4, v5] [] (mI h I) = some (mI h I, .inl (some (.inl (-1)))) := by
  refine (Go_const (y := 13) (ip := 11) (a := (-1)) (b := 0) (c := 0) (by decide +kernel)).trans ?_
  refine (Go_iret (y := 13) (ip := 12) (a := 0) (b := 0) (c := 0) (by decide +kernel) (Or.inl rfl)).trans ?_
  rfl

theorem b13_13 {h : HP} {I : Nat → Int → Int} {x1 : Int} {r2 : Option Nat} {x3 : Int} {v4 : MV} {v5 : MV} (p0 : LX 0 h 2) (p1 : 0 ≤ I 2 7 ∧ I 2 7 < 100) : Go 13 13 [.inr (.inl (some 2)), .inl x1, .inr (.inl r2), .inl x3, v4, v5] [] (mI h I) = Go 13 28 [.inr (.inl (some 2)), .inl x1, .inr (.inl r2), .inl x3, .inl (I 2 7), .inl 0] [] (mI h (zu2 (zu2 I 3 (I 2 7) x1) 5 (I 2 7) x3)) := by
  refine (Go_aload (y := 13) (ip := 13) (a := 0) (b := 0) (c := 0) (by decide +kernel) rfl).trans ?_
  refine (Go_getI (y := 13) (ip := 14) (a := 7) (b := 0) (c := 7) (by decide +kernel) rfl (LX_t p0)).trans ?_
  refine (Go_istore (y := 13) (ip := 15) (a := 0) (b := 4) (c := 0) (by decide +kernel) rfl).trans ?_
  refine (Go_aload (y := 13) (ip := 16) (a := 0) (b := 0) (c := 0) (by decide +kernel) rfl).trans ?_
  refine (Go_getR2 (r1 := some 3) (y := 13) (ip := 17) (a := 0) (b := 0) (c := 0) (by decide +kernel) rfl (LX_t p0) (LX_r p0 0 false 1 0 100 rfl)).trans ?_
  refine (Go_iload (y := 13) (ip := 18) (a := 0) (b := 4) (c := 0) (by decide +kernel) rfl).trans ?_
  refine (Go_iload (y := 13) (ip := 19) (a := 0) (b := 1) (c := 0) (by decide +kernel) rfl).trans ?_
  refine (Go_ast (y := 13) (ip := 20) (a := 0) (b := 0) (c := 0) (by decide +kernel) (LX_k p0 0 false 1 0 100 rfl) p1 (Or.inl rfl)).trans ?_
  refine (Go_aload (y := 13) (ip := 21) (a := 0) (b := 0) (c := 0) (by decide +kernel) rfl).trans ?_
  refine (Go_getR2 (r1 := some 5) (y := 13) (ip := 22) (a := 2) (b := 0) (c := 2) (by decide +kernel) rfl (LX_t p0) (LX_r p0 2 false 3 0 100 rfl)).trans ?_
  refine (Go_iload (y := 13) (ip := 23) (a := 0) (b := 4) (c := 0) (by decide +kernel) rfl).trans ?_
  refine (Go_iload (y := 13) (ip := 24) (a := 0) (b := 3) (c := 0) (by decide +kernel) rfl).trans ?_
  refine (Go_ast (y := 13) (ip := 25) (a := 0) (b := 0) (c := 0) (by decide +kernel) (LX_k p0 2 false 3 0 100 rfl) p1 (Or.inl rfl)).trans ?_
  refine (Go_const (y := 13) (ip := 26) (a := 0) (b := 0) (c := 0) (by decide +kernel)).trans ?_
  refine (Go_istore (y := 13) (ip := 27) (a := 0) (b := 5) (c := 0) (by decide +kernel) rfl).trans ?_
  rfl

theorem b13_28 {h : HP} {I : Nat → Int → Int} {x1 : Int} {r2 : Option Nat} {x3 : Int} {x4 : Int} {x5 : Int} : Go 13 28 [.inr (.inl (some 2)), .inl x1, .inr (.inl r2), .inl x3, .inl x4, .inl x5] [] (mI h I) = if x3 ≤ x5 then Go 13 44 [.inr (.inl (some 2)), .inl x1, .inr (.inl r2), .inl x3, .inl x4, .inl x5] [] (mI h I) else Go 13 31 [.inr (.inl (some 2)), .inl x1, .inr (.inl r2), .inl x3, .inl x4, .inl x5] [] (mI h I) := by
  refine (Go_iload (y := 13) (ip := 28) (a := 0) (b := 5) (c := 0) (by decide +kernel) rfl).trans ?_
  refine (Go_iload (y := 13) (ip := 29) (a := 0) (b := 3) (c := 0) (by decide +kernel) rfl).trans ?_
  refine (Go_cmpge (y := 13) (ip := 30) (a := 0) (c := 44) (by decide +kernel)).trans ?_
  rfl

theorem b13_31 {h : HP} {I : Nat → Int → Int} {x1 : Int} {a2 : Nat} {x3 : Int} {x4 : Int} {x5 : Int} {n_a2 : Int} (p0 : LX 0 h 2) (p1 : rgI (x4 * 12)) (p2 : rgI ((x4 * 12) + x5)) (p3 : hK h a2 = (0, n_a2)) (p4 : 0 ≤ x5 ∧ x5 < n_a2) (p5 : 0 ≤ (x4 * 12) + x5 ∧ (x4 * 12) + x5 < 1200) (p6 : rgI (x5 + 1)) : Go 13 31 [.inr (.inl (some 2)), .inl x1, .inr (.inl (some a2)), .inl x3, .inl x4, .inl x5] [] (mI h I) = Go 13 28 [.inr (.inl (some 2)), .inl x1, .inr (.inl (some a2)), .inl x3, .inl x4, .inl (x5 + 1)] [] (mI h (zu2 I 6 ((x4 * 12) + x5) (I a2 x5))) := by
  refine (Go_aload (y := 13) (ip := 31) (a := 0) (b := 0) (c := 0) (by decide +kernel) rfl).trans ?_
  refine (Go_getR2 (r1 := some 6) (y := 13) (ip := 32) (a := 3) (b := 0) (c := 3) (by decide +kernel) rfl (LX_t p0) (LX_r p0 3 false 4 0 1200 rfl)).trans ?_
  refine (Go_iload (y := 13) (ip := 33) (a := 0) (b := 4) (c := 0) (by decide +kernel) rfl).trans ?_
  refine (Go_const (y := 13) (ip := 34) (a := 12) (b := 0) (c := 0) (by decide +kernel)).trans ?_
  refine (Go_ar (op := 6) (x := x4 * 12) (y := 13) (ip := 35) (a := 0) (b := 0) (c := 0) (by decide +kernel) rfl (zar6 p1)).trans ?_
  refine (Go_iload (y := 13) (ip := 36) (a := 0) (b := 5) (c := 0) (by decide +kernel) rfl).trans ?_
  refine (Go_ar (op := 4) (x := (x4 * 12) + x5) (y := 13) (ip := 37) (a := 0) (b := 0) (c := 0) (by decide +kernel) rfl (zar4 p2)).trans ?_
  refine (Go_aload (y := 13) (ip := 38) (a := 0) (b := 2) (c := 0) (by decide +kernel) rfl).trans ?_
  refine (Go_iload (y := 13) (ip := 39) (a := 0) (b := 5) (c := 0) (by decide +kernel) rfl).trans ?_
  refine (Go_ald (y := 13) (ip := 40) (a := 0) (b := 0) (c := 0) (by decide +kernel) rfl (p3) rfl p4).trans ?_
  refine (Go_ast (y := 13) (ip := 41) (a := 0) (b := 0) (c := 0) (by decide +kernel) (LX_k p0 3 false 4 0 1200 rfl) p5 (Or.inl rfl)).trans ?_
  refine (Go_iinc (y := 13) (ip := 42) (a := 1) (b := 5) (c := 0) (by decide +kernel) rfl p6).trans ?_
  refine (Go_goto (y := 13) (ip := 43) (a := 0) (b := 0) (c := 28) (by decide +kernel)).trans ?_
  rfl

theorem b13_44 {h : HP} {I : Nat → Int → Int} {x1 : Int} {r2 : Option Nat} {x3 : Int} {x4 : Int} {x5 : Int} (p0 : LX 0 h 2) : Go 13 44 [.inr (.inl (some 2)), .inl x1, .inr (.inl r2), .inl x3, .inl x4, .inl x5] [] (mI h I) = caln 13 [.inr (.inl (some 2)), .inl x1, .inr (.inl r2), .inl x3, .inl x4, .inl x5] [] 47 (Go 15 0 [.inr (.inl (some 2)), .inl x4, vU] [] (mI h I)) := by
  refine (Go_aload (y := 13) (ip := 44) (a := 0) (b := 0) (c := 0) (by decide +kernel) rfl).trans ?_
  refine (Go_iload (y := 13) (ip := 45) (a := 0) (b := 4) (c := 0) (by decide +kernel) rfl).trans ?_
  refine (Go_call2 (y := 13) (ip := 46) (a := 6) (z := 15) (c := 0) (as := [.inr (.inl (some 2)), .inl x4]) (rest := []) (by decide +kernel) (by decide +kernel) rfl rfl (zrecv_v rfl (LX_t p0)) rfl).trans ?_
  rfl

theorem b13_47 {h : HP} {I : Nat → Int → Int} {x1 : Int} {r2 : Option Nat} {x3 : Int} {x4 : Int} {x5 : Int} (p0 : LX 0 h 2) : Go 13 47 [.inr (.inl (some 2)), .inl x1, .inr (.inl r2), .inl x3, .inl x4, .inl x5] [] (mI h I) = caln 13 [.inr (.inl (some 2)), .inl x1, .inr (.inl r2), .inl x3, .inl x4, .inl x5] [.inl x4, .inr (.inl (some 4))] 55 (Go 14 0 [.inr (.inl (some 2)), .inl x1, .inr (.inl r2), .inl x3, vU, vU, vU] [] (mI h I)) := by
  refine (Go_aload (y := 13) (ip := 47) (a := 0) (b := 0) (c := 0) (by decide +kernel) rfl).trans ?_
  refine (Go_getR2 (r1 := some 4) (y := 13) (ip := 48) (a := 1) (b := 0) (c := 1) (by decide +kernel) rfl (LX_t p0) (LX_r p0 1 false 2 0 100 rfl)).trans ?_
  refine (Go_iload (y := 13) (ip := 49) (a := 0) (b := 4) (c := 0) (by decide +kernel) rfl).trans ?_
  refine (Go_aload (y := 13) (ip := 50) (a := 0) (b := 0) (c := 0) (by decide +kernel) rfl).trans ?_
  refine (Go_iload (y := 13) (ip := 51) (a := 0) (b := 1) (c := 0) (by decide +kernel) rfl).trans ?_
  refine (Go_aload (y := 13) (ip := 52) (a := 0) (b := 2) (c := 0) (by decide +kernel) rfl).trans ?_
  refine (Go_iload (y := 13) (ip := 53) (a := 0) (b := 3) (c := 0) (by decide +kernel) rfl).trans ?_
  refine (Go_call2 (y := 13) (ip := 54) (a := 7) (z := 14) (c := 0) (as := [.inr (.inl (some 2)), .inl x1, .inr (.inl r2), .inl x3]) (rest := [.inl x4, .inr (.inl (some 4))]) (by decide +kernel) (by decide +kernel) rfl rfl (zrecv_v rfl (LX_t p0)) rfl).trans ?_
  rfl

theorem b13_55 {h : HP} {I : Nat → Int → Int} {x1 : Int} {r2 : Option Nat} {x3 : Int} {x4 : Int} {x5 : Int} {sa0 : Nat} {sx1 : Int} {sx2 : Int} {n_sa0 : Int} (p0 : hK h sa0 = (0, n_sa0)) (p1 : 0 ≤ sx1 ∧ sx1 < n_sa0) (p2 : LX 0 h 2) (p3 : rgI (((zu2 I sa0 sx1 sx2) 2 7) + 1)) : Go 13 55 [.inr (.inl (some 2)), .inl x1, .inr (.inl r2), .inl x3, .inl x4, .inl x5] [.inl sx2, .inl sx1, .inr (.inl (some sa0))] (mI h I) = caln 13 [.inr (.inl (some 2)), .inl x1, .inr (.inl r2), .inl x3, .inl x4, .inl x5] [] 65 (Go 18 0 [.inr (.inl (some 2)), .inl x4, vU] [] (mI h (zu2 (zu2 I sa0 sx1 sx2) 2 7 (((zu2 I sa0 sx1 sx2) 2 7) + 1)))) := by
  refine (Go_ast (y := 13) (ip := 55) (a := 0) (b := 0) (c := 0) (by decide +kernel) (p0) p1 (Or.inl rfl)).trans ?_
  refine (Go_aload (y := 13) (ip := 56) (a := 0) (b := 0) (c := 0) (by decide +kernel) rfl).trans ?_
  refine (Go_dupR (y := 13) (ip := 57) (a := 0) (b := 0) (c := 0) (by decide +kernel)).trans ?_
  refine (Go_getI (y := 13) (ip := 58) (a := 7) (b := 0) (c := 7) (by decide +kernel) rfl (LX_t p2)).trans ?_
  refine (Go_const (y := 13) (ip := 59) (a := 1) (b := 0) (c := 0) (by decide +kernel)).trans ?_
  refine (Go_ar (op := 4) (x := ((zu2 I sa0 sx1 sx2) 2 7) + 1) (y := 13) (ip := 60) (a := 0) (b := 0) (c := 0) (by decide +kernel) rfl (zar4 p3)).trans ?_
  refine (Go_putI (y := 13) (ip := 61) (a := 7) (b := 0) (c := 7) (by decide +kernel) (LX_t p2) (Or.inl rfl)).trans ?_
  refine (Go_aload (y := 13) (ip := 62) (a := 0) (b := 0) (c := 0) (by decide +kernel) rfl).trans ?_
  refine (Go_iload (y := 13) (ip := 63) (a := 0) (b := 4) (c := 0) (by decide +kernel) rfl).trans ?_
  refine (Go_call2 (y := 13) (ip := 64) (a := 8) (z := 18) (c := 0) (as := [.inr (.inl (some 2)), .inl x4]) (rest := []) (by decide +kernel) (by decide +kernel) rfl rfl (zrecv_v rfl (LX_t p2)) rfl).trans ?_
  rfl

theorem b13_65 {h : HP} {I : Nat → Int → Int} {x1 : Int} {r2 : Option Nat} {x3 : Int} {x4 : Int} {x5 : Int} : Go 13 65 [.inr (.inl (some 2)), .inl x1, .inr (.inl r2), .inl x3, .inl x4, .inl x5] [] (mI h I) = some (mI h I, .inl (some (.inl x4))) := by
  refine (Go_iload (y := 13) (ip := 65) (a := 0) (b := 4) (c := 0) (by decide +kernel) rfl).trans ?_
  refine (Go_iret (y := 13) (ip := 66) (a := 0) (b := 0) (c := 0) (by decide +kernel) (Or.inl rfl)).trans ?_
  rfl

theorem b45_0 {h : HP} {I : Nat → Int → Int} {a0 : Nat} {v1 : MV} (p0 : LX 3 h a0) : Go 45 0 [.inr (.inl (some a0)), v1] [] (mI h I) = caln 45 [.inr (.inl (some a0)), v1] [] 4 (Go 40 0 [.inr (.inl (some a0)), .inl 4, .inl (-1)] [] (mI h I)) := by
  refine (Go_aload (y := 45) (ip := 0) (a := 0) (b := 0) (c := 0) (by decide +kernel) rfl).trans ?_
  refine (Go_const (y := 45) (ip := 1) (a := 4) (b := 0) (c := 0) (by decide +kernel)).trans ?_
  refine (Go_const (y := 45) (ip := 2) (a := (-1)) (b := 0) (c := 0) (by decide +kernel)).trans ?_
  refine (Go_call2 (y := 45) (ip := 3) (a := 37) (z := 40) (c := 0) (as := [.inr (.inl (some a0)), .inl 4, .inl (-1)]) (rest := []) (by decide +kernel) (by decide +kernel) rfl rfl (zrecv_v rfl (LX_t p0)) rfl).trans ?_
  rfl

theorem b45_4 {h : HP} {I : Nat → Int → Int} {a0 : Nat} {v1 : MV} (p0 : LX 3 h a0) (p1 : rgI ((I a0 12) - 1)) (p2 : 0 ≤ (I a0 12) - 1 ∧ (I a0 12) - 1 < 30) : Go 45 4 [.inr (.inl (some a0)), v1] [] (mI h I) = if hR h (a0 + 19) ((I a0 12) - 1) = none then Go 45 14 [.inr (.inl (some a0)), .inr (.inl (hR h (a0 + 19) ((I a0 12) - 1)))] [] (mI h I) else Go 45 26 [.inr (.inl (some a0)), .inr (.inl (hR h (a0 + 19) ((I a0 12) - 1)))] [] (mI h I) := by
  refine (Go_aload (y := 45) (ip := 4) (a := 0) (b := 0) (c := 0) (by decide +kernel) rfl).trans ?_
  refine (Go_getR2 (r1 := some (a0 + 19)) (y := 45) (ip := 5) (a := 33) (b := 3) (c := 11) (by decide +kernel) rfl (LX_t p0) (LX_r p0 11 false 19 4 30 rfl)).trans ?_
  refine (Go_aload (y := 45) (ip := 6) (a := 0) (b := 0) (c := 0) (by decide +kernel) rfl).trans ?_
  refine (Go_getI (y := 45) (ip := 7) (a := 36) (b := 3) (c := 12) (by decide +kernel) rfl (LX_t p0)).trans ?_
  refine (Go_const (y := 45) (ip := 8) (a := 1) (b := 0) (c := 0) (by decide +kernel)).trans ?_
  refine (Go_ar (op := 5) (x := (I a0 12) - 1) (y := 45) (ip := 9) (a := 0) (b := 0) (c := 0) (by decide +kernel) rfl (zar5 p1)).trans ?_
  refine (Go_aald (y := 45) (ip := 10) (a := 0) (b := 0) (c := 0) (by decide +kernel) (LX_k p0 11 false 19 4 30 rfl) rfl p2).trans ?_
  refine (Go_astore (y := 45) (ip := 11) (a := 0) (b := 1) (c := 0) (by decide +kernel) rfl).trans ?_
  refine (Go_aload (y := 45) (ip := 12) (a := 0) (b := 1) (c := 0) (by decide +kernel) rfl).trans ?_
  refine (Go_null1 (y := 45) (ip := 13) (a := 0) (b := 0) (c := 26) (by decide +kernel)).trans ?_
  rfl

theorem b45_14 {h : HP} {I : Nat → Int → Int} {r0 : Option Nat} {r1 : Option Nat} : Go 45 14 [.inr (.inl r0), .inr (.inl r1)] [] (mI h I) = caln 45 [.inr (.inl r0), .inr (.inl r1)] [.inr (.inl (some (hN h)))] 17 (Go 53 0 [.inr (.inl (some (hN h)))] [] (hNew (mI h I) 14 0 5)) := by
  refine (Go_new (y := 45) (ip := 14) (a := 1) (b := 4) (c := 0) (by decide +kernel)).trans ?_
  refine (Go_dupR (y := 45) (ip := 15) (a := 0) (b := 0) (c := 0) (by decide +kernel)).trans ?_
  refine (Go_call2 (y := 45) (ip := 16) (a := 29) (z := 53) (c := 2) (as := [.inr (.inl (some (hN h)))]) (rest := [.inr (.inl (some (hN h)))]) (by decide +kernel) (by decide +kernel) rfl rfl rfl rfl).trans ?_
  rfl

theorem b45_17 {h : HP} {I : Nat → Int → Int} {a0 : Nat} {r1 : Option Nat} {sa0 : Nat} (p0 : LX 3 h a0) (p1 : rgI ((I a0 12) - 1)) (p2 : LX 4 h sa0) (p3 : 0 ≤ (I a0 12) - 1 ∧ (I a0 12) - 1 < 30) : Go 45 17 [.inr (.inl (some a0)), .inr (.inl r1)] [.inr (.inl (some sa0))] (mI h I) = Go 45 26 [.inr (.inl (some a0)), .inr (.inl (some sa0))] [] (mI (hSR h (a0 + 19) ((I a0 12) - 1) (some sa0)) I) := by
  refine (Go_astore (y := 45) (ip := 17) (a := 0) (b := 1) (c := 0) (by decide +kernel) rfl).trans ?_
  refine (Go_aload (y := 45) (ip := 18) (a := 0) (b := 0) (c := 0) (by decide +kernel) rfl).trans ?_
  refine (Go_getR2 (r1 := some (a0 + 19)) (y := 45) (ip := 19) (a := 33) (b := 3) (c := 11) (by decide +kernel) rfl (LX_t p0) (LX_r p0 11 false 19 4 30 rfl)).trans ?_
  refine (Go_aload (y := 45) (ip := 20) (a := 0) (b := 0) (c := 0) (by decide +kernel) rfl).trans ?_
  refine (Go_getI (y := 45) (ip := 21) (a := 36) (b := 3) (c := 12) (by decide +kernel) rfl (LX_t p0)).trans ?_
  refine (Go_const (y := 45) (ip := 22) (a := 1) (b := 0) (c := 0) (by decide +kernel)).trans ?_
  refine (Go_ar (op := 5) (x := (I a0 12) - 1) (y := 45) (ip := 23) (a := 0) (b := 0) (c := 0) (by decide +kernel) rfl (zar5 p1)).trans ?_
  refine (Go_aload (y := 45) (ip := 24) (a := 0) (b := 1) (c := 0) (by decide +kernel) rfl).trans ?_
  refine (Go_aast (y := 45) (ip := 25) (a := 0) (b := 0) (c := 0) (by decide +kernel) (LX_k p0 11 false 19 4 30 rfl) rfl p3 (LX_t p2)).trans ?_
  rfl

theorem b45_26 {h : HP} {I : Nat → Int → Int} {a0 : Nat} {a1 : Nat} (p0 : LX 3 h a0) (p1 : LX 4 h a1) : Go 45 26 [.inr (.inl (some a0)), .inr (.inl (some a1))] [] (mI h I) = caln 45 [.inr (.inl (some a0)), .inr (.inl (some a1))] [] 30 (Go 54 0 [.inr (.inl (some a1)), .inr (.inl (some (a0 + 6))), vU] [] (mI h I)) := by
  refine (Go_aload (y := 45) (ip := 26) (a := 0) (b := 1) (c := 0) (by decide +kernel) rfl).trans ?_
  refine (Go_aload (y := 45) (ip := 27) (a := 0) (b := 0) (c := 0) (by decide +kernel) rfl).trans ?_
  refine (Go_getR2 (r1 := some (a0 + 6)) (y := 45) (ip := 28) (a := 28) (b := 3) (c := 6) (by decide +kernel) rfl (LX_t p0) (LX_r p0 6 false 6 14 0 rfl)).trans ?_
  refine (Go_call2 (y := 45) (ip := 29) (a := 38) (z := 54) (c := 0) (as := [.inr (.inl (some a1)), .inr (.inl (some (a0 + 6)))]) (rest := []) (by decide +kernel) (by decide +kernel) rfl rfl (zrecv_v rfl (LX_t p1)) rfl).trans ?_
  rfl

theorem b45_30 {h : HP} {I : Nat → Int → Int} {r0 : Option Nat} {r1 : Option Nat} : Go 45 30 [.inr (.inl r0), .inr (.inl r1)] [] (mI h I) = some (mI h I, .inl none) := by
  refine (Go_vret (y := 45) (ip := 30) (a := 0) (b := 0) (c := 0) (by decide +kernel) rfl).trans ?_
  rfl

theorem b54_0 {h : HP} {I : Nat → Int → Int} {r0 : Option Nat} {r1 : Option Nat} {v2 : MV} : Go 54 0 [.inr (.inl r0), .inr (.inl r1), v2] [] (mI h I) = Go 54 2 [.inr (.inl r0), .inr (.inl r1), .inl 0] [] (mI h I) := by
  refine (Go_const (y := 54) (ip := 0) (a := 0) (b := 0) (c := 0) (by decide +kernel)).trans ?_
  refine (Go_istore (y := 54) (ip := 1) (a := 0) (b := 2) (c := 0) (by decide +kernel) rfl).trans ?_
  rfl

theorem b54_2 {h : HP} {I : Nat → Int → Int} {r0 : Option Nat} {r1 : Option Nat} {x2 : Int} : Go 54 2 [.inr (.inl r0), .inr (.inl r1), .inl x2] [] (mI h I) = if 6 ≤ x2 then Go 54 15 [.inr (.inl r0), .inr (.inl r1), .inl x2] [] (mI h I) else Go 54 5 [.inr (.inl r0), .inr (.inl r1), .inl x2] [] (mI h I) := by
  refine (Go_iload (y := 54) (ip := 2) (a := 0) (b := 2) (c := 0) (by decide +kernel) rfl).trans ?_
  refine (Go_const (y := 54) (ip := 3) (a := 6) (b := 0) (c := 0) (by decide +kernel)).trans ?_
  refine (Go_cmpge (y := 54) (ip := 4) (a := 0) (c := 15) (by decide +kernel)).trans ?_
  rfl

theorem b54_5 {h : HP} {I : Nat → Int → Int} {a0 : Nat} {a1 : Nat} {x2 : Int} (p0 : LX 4 h a0) (p1 : LX 4 h a1) (p2 : 0 ≤ x2 ∧ x2 < 6) (p3 : rgI (x2 + 1)) : Go 54 5 [.inr (.inl (some a0)), .inr (.inl (some a1)), .inl x2] [] (mI h I) = Go 54 2 [.inr (.inl (some a0)), .inr (.inl (some a1)), .inl (x2 + 1)] [] (mI h (zu2 I (a0 + 1) x2 (I (a1 + 1) x2))) := by
  refine (Go_aload (y := 54) (ip := 5) (a := 0) (b := 0) (c := 0) (by decide +kernel) rfl).trans ?_
  refine (Go_getR2 (r1 := some (a0 + 1)) (y := 54) (ip := 6) (a := 38) (b := 4) (c := 0) (by decide +kernel) rfl (LX_t p0) (LX_r p0 0 false 1 0 6 rfl)).trans ?_
  refine (Go_iload (y := 54) (ip := 7) (a := 0) (b := 2) (c := 0) (by decide +kernel) rfl).trans ?_
  refine (Go_aload (y := 54) (ip := 8) (a := 0) (b := 1) (c := 0) (by decide +kernel) rfl).trans ?_
  refine (Go_getR2 (r1 := some (a1 + 1)) (y := 54) (ip := 9) (a := 38) (b := 4) (c := 0) (by decide +kernel) rfl (LX_t p1) (LX_r p1 0 false 1 0 6 rfl)).trans ?_
  refine (Go_iload (y := 54) (ip := 10) (a := 0) (b := 2) (c := 0) (by decide +kernel) rfl).trans ?_
  refine (Go_ald (y := 54) (ip := 11) (a := 0) (b := 0) (c := 0) (by decide +kernel) rfl (LX_k p1 0 false 1 0 6 rfl) rfl p2).trans ?_
  refine (Go_ast (y := 54) (ip := 12) (a := 0) (b := 0) (c := 0) (by decide +kernel) (LX_k p0 0 false 1 0 6 rfl) p2 (Or.inl rfl)).trans ?_
  refine (Go_iinc (y := 54) (ip := 13) (a := 1) (b := 2) (c := 0) (by decide +kernel) rfl p3).trans ?_
  refine (Go_goto (y := 54) (ip := 14) (a := 0) (b := 0) (c := 2) (by decide +kernel)).trans ?_
  rfl

theorem b54_15 {h : HP} {I : Nat → Int → Int} {r0 : Option Nat} {r1 : Option Nat} {x2 : Int} : Go 54 15 [.inr (.inl r0), .inr (.inl r1), .inl x2] [] (mI h I) = Go 54 17 [.inr (.inl r0), .inr (.inl r1), .inl 0] [] (mI h I) := by
  refine (Go_const (y := 54) (ip := 15) (a := 0) (b := 0) (c := 0) (by decide +kernel)).trans ?_
  refine (Go_istore (y := 54) (ip := 16) (a := 0) (b := 2) (c := 0) (by decide +kernel) rfl).trans ?_
  rfl

theorem b54_17 {h : HP} {I : Nat → Int → Int} {r0 : Option Nat} {r1 : Option Nat} {x2 : Int} : Go 54 17 [.inr (.inl r0), .inr (.inl r1), .inl x2] [] (mI h I) = if 100 ≤ x2 then Go 54 46 [.inr (.inl r0), .inr (.inl r1), .inl x2] [] (mI h I) else Go 54 20 [.inr (.inl r0), .inr (.inl r1), .inl x2] [] (mI h I) := by
  refine (Go_iload (y := 54) (ip := 17) (a := 0) (b := 2) (c := 0) (by decide +kernel) rfl).trans ?_
  refine (Go_const (y := 54) (ip := 18) (a := 100) (b := 0) (c := 0) (by decide +kernel)).trans ?_
  refine (Go_cmpge (y := 54) (ip := 19) (a := 0) (c := 46) (by decide +kernel)).trans ?_
  rfl

theorem b54_20 {h : HP} {I : Nat → Int → Int} {a0 : Nat} {a1 : Nat} {x2 : Int} (p0 : LX 4 h a0) (p1 : LX 4 h a1) (p2 : 0 ≤ x2 ∧ x2 < 100) (p3 : (zu2 I (a0 + 2) x2 (I (a1 + 2) x2)) (a1 + 3) x2 = 0 ∨ (zu2 I (a0 + 2) x2 (I (a1 + 2) x2)) (a1 + 3) x2 = 1) (p4 : (zu2 (zu2 I (a0 + 2) x2 (I (a1 + 2) x2)) (a0 + 3) x2 ((zu2 I (a0 + 2) x2 (I (a1 + 2) x2)) (a1 + 3) x2)) (a1 + 4) x2 = 0 ∨ (zu2 (zu2 I (a0 + 2) x2 (I (a1 + 2) x2)) (a0 + 3) x2 ((zu2 I (a0 + 2) x2 (I (a1 + 2) x2)) (a1 + 3) x2)) (a1 + 4) x2 = 1) (p5 : rgI (x2 + 1)) : Go 54 20 [.inr (.inl (some a0)), .inr (.inl (some a1)), .inl x2] [] (mI h I) = Go 54 17 [.inr (.inl (some a0)), .inr (.inl (some a1)), .inl (x2 + 1)] [] (mI h (zu2 (zu2 (zu2 I (a0 + 2) x2 (I (a1 + 2) x2)) (a0 + 3) x2 ((zu2 I (a0 + 2) x2 (I (a1 + 2) x2)) (a1 + 3) x2)) (a0 + 4) x2 ((zu2 (zu2 I (a0 + 2) x2 (I (a1 + 2) x2)) (a0 + 3) x2 ((zu2 I (a0 + 2) x2 (I (a1 + 2) x2)) (a1 + 3) x2)) (a1 + 4) x2))) := by
  refine (Go_aload (y := 54) (ip := 20) (a := 0) (b := 0) (c := 0) (by decide +kernel) rfl).trans ?_
  refine (Go_getR2 (r1 := some (a0 + 2)) (y := 54) (ip := 21) (a := 39) (b := 4) (c := 1) (by decide +kernel) rfl (LX_t p0) (LX_r p0 1 false 2 0 100 rfl)).trans ?_
  refine (Go_iload (y := 54) (ip := 22) (a := 0) (b := 2) (c := 0) (by decide +kernel) rfl).trans ?_
  refine (Go_aload (y := 54) (ip := 23) (a := 0) (b := 1) (c := 0) (by decide +kernel) rfl).trans ?_
  refine (Go_getR2 (r1 := some (a1 + 2)) (y := 54) (ip := 24) (a := 39) (b := 4) (c := 1) (by decide +kernel) rfl (LX_t p1) (LX_r p1 1 false 2 0 100 rfl)).trans ?_
  refine (Go_iload (y := 54) (ip := 25) (a := 0) (b := 2) (c := 0) (by decide +kernel) rfl).trans ?_
  refine (Go_ald (y := 54) (ip := 26) (a := 0) (b := 0) (c := 0) (by decide +kernel) rfl (LX_k p1 1 false 2 0 100 rfl) rfl p2).trans ?_
  refine (Go_ast (y := 54) (ip := 27) (a := 0) (b := 0) (c := 0) (by decide +kernel) (LX_k p0 1 false 2 0 100 rfl) p2 (Or.inl rfl)).trans ?_
  refine (Go_aload (y := 54) (ip := 28) (a := 0) (b := 0) (c := 0) (by decide +kernel) rfl).trans ?_
  refine (Go_getR2 (r1 := some (a0 + 3)) (y := 54) (ip := 29) (a := 40) (b := 4) (c := 2) (by decide +kernel) rfl (LX_t p0) (LX_r p0 2 false 3 1 100 rfl)).trans ?_
  refine (Go_iload (y := 54) (ip := 30) (a := 0) (b := 2) (c := 0) (by decide +kernel) rfl).trans ?_
  refine (Go_aload (y := 54) (ip := 31) (a := 0) (b := 1) (c := 0) (by decide +kernel) rfl).trans ?_
  refine (Go_getR2 (r1 := some (a1 + 3)) (y := 54) (ip := 32) (a := 40) (b := 4) (c := 2) (by decide +kernel) rfl (LX_t p1) (LX_r p1 2 false 3 1 100 rfl)).trans ?_
  refine (Go_iload (y := 54) (ip := 33) (a := 0) (b := 2) (c := 0) (by decide +kernel) rfl).trans ?_
  refine (Go_ald (y := 54) (ip := 34) (a := 0) (b := 1) (c := 0) (by decide +kernel) rfl (LX_k p1 2 false 3 1 100 rfl) rfl p2).trans ?_
  refine (Go_ast (y := 54) (ip := 35) (a := 0) (b := 1) (c := 0) (by decide +kernel) (LX_k p0 2 false 3 1 100 rfl) p2 (Or.inr ⟨rfl, p3⟩)).trans ?_
  refine (Go_aload (y := 54) (ip := 36) (a := 0) (b := 0) (c := 0) (by decide +kernel) rfl).trans ?_
  refine (Go_getR2 (r1 := some (a0 + 4)) (y := 54) (ip := 37) (a := 41) (b := 4) (c := 3) (by decide +kernel) rfl (LX_t p0) (LX_r p0 3 false 4 1 100 rfl)).trans ?_
  refine (Go_iload (y := 54) (ip := 38) (a := 0) (b := 2) (c := 0) (by decide +kernel) rfl).trans ?_
  refine (Go_aload (y := 54) (ip := 39) (a := 0) (b := 1) (c := 0) (by decide +kernel) rfl).trans ?_
  refine (Go_getR2 (r1 := some (a1 + 4)) (y := 54) (ip := 40) (a := 41) (b := 4) (c := 3) (by decide +kernel) rfl (LX_t p1) (LX_r p1 3 false 4 1 100 rfl)).trans ?_
  refine (Go_iload (y := 54) (ip := 41) (a := 0) (b := 2) (c := 0) (by decide +kernel) rfl).trans ?_
  refine (Go_ald (y := 54) (ip := 42) (a := 0) (b := 1) (c := 0) (by decide +kernel) rfl (LX_k p1 3 false 4 1 100 rfl) rfl p2).trans ?_
  refine (Go_ast (y := 54) (ip := 43) (a := 0) (b := 1) (c := 0) (by decide +kernel) (LX_k p0 3 false 4 1 100 rfl) p2 (Or.inr ⟨rfl, p4⟩)).trans ?_
  refine (Go_iinc (y := 54) (ip := 44) (a := 1) (b := 2) (c := 0) (by decide +kernel) rfl p5).trans ?_
  refine (Go_goto (y := 54) (ip := 45) (a := 0) (b := 0) (c := 17) (by decide +kernel)).trans ?_
  rfl

theorem b54_46 {h : HP} {I : Nat → Int → Int} {a0 : Nat} {a1 : Nat} {x2 : Int} (p0 : LX 4 h a1) (p1 : LX 4 h a0) : Go 54 46 [.inr (.inl (some a0)), .inr (.inl (some a1)), .inl x2] [] (mI h I) = some (mI h (zu2 I a0 4 (I a1 4)), .inl none) := by
  refine (Go_aload (y := 54) (ip := 46) (a := 0) (b := 0) (c := 0) (by decide +kernel) rfl).trans ?_
  refine (Go_aload (y := 54) (ip := 47) (a := 0) (b := 1) (c := 0) (by decide +kernel) rfl).trans ?_
  refine (Go_getI (y := 54) (ip := 48) (a := 42) (b := 4) (c := 4) (by decide +kernel) rfl (LX_t p0)).trans ?_
  refine (Go_putI (y := 54) (ip := 49) (a := 42) (b := 4) (c := 4) (by decide +kernel) (LX_t p1) (Or.inl rfl)).trans ?_
  refine (Go_vret (y := 54) (ip := 50) (a := 0) (b := 0) (c := 0) (by decide +kernel) rfl).trans ?_
  rfl

theorem b275_0 {h : HP} {I : Nat → Int → Int} {x1 : Int} {v3 : MV} (p0 : LX 10 h 1) : Go 275 0 [.inr (.inl (some 1)), .inl x1, .inr (.inl (some 139)), v3] [] (mI h I) = cal 275 4 [.inr (.inl (some 1)), .inl x1, .inr (.inl (some 139)), v3] [.inl 0, .inr (.inl (some 139))] 5 (Go 99 0 [.inr (.inl (some 1)), .inl x1] [] (mI h I)) := by
  refine (Go_aload (y := 275) (ip := 0) (a := 0) (b := 2) (c := 0) (by decide +kernel) rfl).trans ?_
  refine (Go_const (y := 275) (ip := 1) (a := 0) (b := 0) (c := 0) (by decide +kernel)).trans ?_
  refine (Go_aload (y := 275) (ip := 2) (a := 0) (b := 0) (c := 0) (by decide +kernel) rfl).trans ?_
  refine (Go_iload (y := 275) (ip := 3) (a := 0) (b := 1) (c := 0) (by decide +kernel) rfl).trans ?_
  refine (Go_call3 (y := 275) (ip := 4) (pc := 4) (a := 232) (z := 99) (c := 0) (as := [.inr (.inl (some 1)), .inl x1]) (rest := [.inl 0, .inr (.inl (some 139))]) (by decide +kernel) (by decide +kernel) rfl rfl (zrecv_v rfl (LX_t p0)) rfl).trans ?_
  rfl

theorem b275_5 {h : HP} {I : Nat → Int → Int} {x1 : Int} {v3 : MV} {sx1 : Int} {sx2 : Int} (p0 : hK h 139 = (2, 1)) (p1 : 0 ≤ sx1 ∧ sx1 < 1) : Go 275 5 [.inr (.inl (some 1)), .inl x1, .inr (.inl (some 139)), v3] [.inl sx2, .inl sx1, .inr (.inl (some 139))] (mI h I) = Go 275 14 [.inr (.inl (some 1)), .inl x1, .inr (.inl (some 139)), v3] [] (mI h (zu2 I 139 sx1 sx2)) := by
  refine (Go_i2l (y := 275) (ip := 5) (a := 0) (b := 0) (c := 0) (by decide +kernel)).trans ?_
  refine (Go_stl (y := 275) (ip := 6) (a := 0) (c := 0) (by decide +kernel) (p0) p1).trans ?_
  refine (Go_goto (y := 275) (ip := 7) (a := 0) (b := 0) (c := 14) (by decide +kernel)).trans ?_
  rfl

theorem b275_8 {h : HP} {I : Nat → Int → Int} {x1 : Int} {v3 : MV} {sr0 : Option Nat} : Go 275 8 [.inr (.inl (some 1)), .inl x1, .inr (.inl (some 139)), v3] [.inr (.inl sr0)] (mI h I) = some (mI h I, .inl (some (.inl 1))) := by
  refine (Go_astore (y := 275) (ip := 8) (a := 0) (b := 3) (c := 0) (by decide +kernel) rfl).trans ?_
  refine (Go_const (y := 275) (ip := 9) (a := 1) (b := 0) (c := 0) (by decide +kernel)).trans ?_
  refine (Go_iret (y := 275) (ip := 10) (a := 0) (b := 0) (c := 0) (by decide +kernel) (Or.inl rfl)).trans ?_
  rfl

theorem b275_11 {h : HP} {I : Nat → Int → Int} {x1 : Int} {v3 : MV} {sr0 : Option Nat} : Go 275 11 [.inr (.inl (some 1)), .inl x1, .inr (.inl (some 139)), v3] [.inr (.inl sr0)] (mI h I) = some (mI h I, .inl (some (.inl 2))) := by
  refine (Go_astore (y := 275) (ip := 11) (a := 0) (b := 3) (c := 0) (by decide +kernel) rfl).trans ?_
  refine (Go_const (y := 275) (ip := 12) (a := 2) (b := 0) (c := 0) (by decide +kernel)).trans ?_
  refine (Go_iret (y := 275) (ip := 13) (a := 0) (b := 0) (c := 0) (by decide +kernel) (Or.inl rfl)).trans ?_
  rfl

theorem b275_14 {h : HP} {I : Nat → Int → Int} {x1 : Int} {v3 : MV} : Go 275 14 [.inr (.inl (some 1)), .inl x1, .inr (.inl (some 139)), v3] [] (mI h I) = some (mI h I, .inl (some (.inl 0))) := by
  refine (Go_const (y := 275) (ip := 14) (a := 0) (b := 0) (c := 0) (by decide +kernel)).trans ?_
  refine (Go_iret (y := 275) (ip := 15) (a := 0) (b := 0) (c := 0) (by decide +kernel) (Or.inl rfl)).trans ?_
  rfl

theorem b309_0 {h : HP} {I : Nat → Int → Int} {x1 : Int} {x2 : Int} {x3 : Int} {x4 : Int} {v6 : MV} (p0 : LX 10 h 1) : Go 309 0 [.inr (.inl (some 1)), .inl x1, .inl x2, .inl x3, .inl x4, .inr (.inl (some 139)), v6] [] (mI h I) = cal 309 9 [.inr (.inl (some 1)), .inl x1, .inl x2, .inl x3, .inl x4, .inr (.inl (some 139)), v6] [.inl 0, .inr (.inl (some 139))] 8 (Go 136 0 [.inr (.inl (some 1)), .inl x1, .inl x2, .inl x3, .inl x4, vU] [] (mI h I)) := by
  refine (Go_aload (y := 309) (ip := 0) (a := 0) (b := 5) (c := 0) (by decide +kernel) rfl).trans ?_
  refine (Go_const (y := 309) (ip := 1) (a := 0) (b := 0) (c := 0) (by decide +kernel)).trans ?_
  refine (Go_aload (y := 309) (ip := 2) (a := 0) (b := 0) (c := 0) (by decide +kernel) rfl).trans ?_
  refine (Go_iload (y := 309) (ip := 3) (a := 0) (b := 1) (c := 0) (by decide +kernel) rfl).trans ?_
  refine (Go_iload (y := 309) (ip := 4) (a := 0) (b := 2) (c := 0) (by decide +kernel) rfl).trans ?_
  refine (Go_iload (y := 309) (ip := 5) (a := 0) (b := 3) (c := 0) (by decide +kernel) rfl).trans ?_
  refine (Go_iload (y := 309) (ip := 6) (a := 0) (b := 4) (c := 0) (by decide +kernel) rfl).trans ?_
  refine (Go_call3 (y := 309) (ip := 7) (pc := 9) (a := 266) (z := 136) (c := 0) (as := [.inr (.inl (some 1)), .inl x1, .inl x2, .inl x3, .inl x4]) (rest := [.inl 0, .inr (.inl (some 139))]) (by decide +kernel) (by decide +kernel) rfl rfl (zrecv_v rfl (LX_t p0)) rfl).trans ?_
  rfl

theorem b309_8 {h : HP} {I : Nat → Int → Int} {x1 : Int} {x2 : Int} {x3 : Int} {x4 : Int} {v6 : MV} {sx1 : Int} {sx2 : Int} (p0 : hK h 139 = (2, 1)) (p1 : 0 ≤ sx1 ∧ sx1 < 1) : Go 309 8 [.inr (.inl (some 1)), .inl x1, .inl x2, .inl x3, .inl x4, .inr (.inl (some 139)), v6] [.inl sx2, .inl sx1, .inr (.inl (some 139))] (mI h I) = Go 309 20 [.inr (.inl (some 1)), .inl x1, .inl x2, .inl x3, .inl x4, .inr (.inl (some 139)), v6] [] (mI h (zu2 I 139 sx1 sx2)) := by
  refine (Go_i2l (y := 309) (ip := 8) (a := 0) (b := 0) (c := 0) (by decide +kernel)).trans ?_
  refine (Go_stl (y := 309) (ip := 9) (a := 0) (c := 0) (by decide +kernel) (p0) p1).trans ?_
  refine (Go_goto (y := 309) (ip := 10) (a := 0) (b := 0) (c := 20) (by decide +kernel)).trans ?_
  rfl

theorem b309_11 {h : HP} {I : Nat → Int → Int} {x1 : Int} {x2 : Int} {x3 : Int} {x4 : Int} {v6 : MV} {sr0 : Option Nat} : Go 309 11 [.inr (.inl (some 1)), .inl x1, .inl x2, .inl x3, .inl x4, .inr (.inl (some 139)), v6] [.inr (.inl sr0)] (mI h I) = some (mI h I, .inl (some (.inl 1))) := by
  refine (Go_astore (y := 309) (ip := 11) (a := 0) (b := 6) (c := 0) (by decide +kernel) rfl).trans ?_
  refine (Go_const (y := 309) (ip := 12) (a := 1) (b := 0) (c := 0) (by decide +kernel)).trans ?_
  refine (Go_iret (y := 309) (ip := 13) (a := 0) (b := 0) (c := 0) (by decide +kernel) (Or.inl rfl)).trans ?_
  rfl

theorem b309_14 {h : HP} {I : Nat → Int → Int} {x1 : Int} {x2 : Int} {x3 : Int} {x4 : Int} {v6 : MV} {sr0 : Option Nat} : Go 309 14 [.inr (.inl (some 1)), .inl x1, .inl x2, .inl x3, .inl x4, .inr (.inl (some 139)), v6] [.inr (.inl sr0)] (mI h I) = some (mI h I, .inl (some (.inl 2))) := by
  refine (Go_astore (y := 309) (ip := 14) (a := 0) (b := 6) (c := 0) (by decide +kernel) rfl).trans ?_
  refine (Go_const (y := 309) (ip := 15) (a := 2) (b := 0) (c := 0) (by decide +kernel)).trans ?_
  refine (Go_iret (y := 309) (ip := 16) (a := 0) (b := 0) (c := 0) (by decide +kernel) (Or.inl rfl)).trans ?_
  rfl

theorem b309_17 {h : HP} {I : Nat → Int → Int} {x1 : Int} {x2 : Int} {x3 : Int} {x4 : Int} {v6 : MV} {sr0 : Option Nat} : Go 309 17 [.inr (.inl (some 1)), .inl x1, .inl x2, .inl x3, .inl x4, .inr (.inl (some 139)), v6] [.inr (.inl sr0)] (mI h I) = some (mI h I, .inl (some (.inl 3))) := by
  refine (Go_astore (y := 309) (ip := 17) (a := 0) (b := 6) (c := 0) (by decide +kernel) rfl).trans ?_
  refine (Go_const (y := 309) (ip := 18) (a := 3) (b := 0) (c := 0) (by decide +kernel)).trans ?_
  refine (Go_iret (y := 309) (ip := 19) (a := 0) (b := 0) (c := 0) (by decide +kernel) (Or.inl rfl)).trans ?_
  rfl

theorem b309_20 {h : HP} {I : Nat → Int → Int} {x1 : Int} {x2 : Int} {x3 : Int} {x4 : Int} {v6 : MV} : Go 309 20 [.inr (.inl (some 1)), .inl x1, .inl x2, .inl x3, .inl x4, .inr (.inl (some 139)), v6] [] (mI h I) = some (mI h I, .inl (some (.inl 0))) := by
  refine (Go_const (y := 309) (ip := 20) (a := 0) (b := 0) (c := 0) (by decide +kernel)).trans ?_
  refine (Go_iret (y := 309) (ip := 21) (a := 0) (b := 0) (c := 0) (by decide +kernel) (Or.inl rfl)).trans ?_
  rfl

